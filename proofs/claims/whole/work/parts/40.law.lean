variable {p : Program} {l : Launch} {e : Env} {R : Room} {s : State} {m : MethodId} {below : List Frame} {meth : Method} {c : Code} {Q : State → Prop} {cA : Nat → ClassId} {D : va_G} {Λ : Lay} {sa : Nat → Nat} {b L : Nat} {xs : Nat → Int32} {cells slots : Nat}
set_option maxHeartbeats 4000000 in
set_option maxRecDepth 100000 in
theorem w_jp_L_law_164 (X : Cx cL_law (some .boolean) 8 RL wsL_law p s m #[Value.ref b] meth c) (hK : Kn cA D s) (hT : TL Λ) (hM : 8 ≤ R.frames ∧ 175 ≤ R.locals) (hlt : l.stackTraces = false) (hdm : ∀ q, dm Λ q → s.heap.size ≤ q) (hX : va_X b L xs s s.heap) (hbl : b < s.heap.size) (hcs : cells + 1 ≤ R.cells ∧ slots + 6 ≤ R.slots) (a1 a2 a3 : Nat) (k1 : isK Λ a1 5) (k2 : isK Λ a2 6) (k3 : isK Λ a3 8) (l4 : Int32) (σ : Sto) {r : (Int32 × Sto) ⊕ Sto} (h : jp_L_law_164 Λ xs L a1 a2 a3 l4 σ = some r) (kb : ∀ z : Int32 × Sto, r = .inl z → ∀ (H : Heap) (locs : List Loc) (ls : Array Slot), Rep cA D Λ z.2 H → va_S (frm s.heap.size) s.heap H locs → XK Λ sa s H → lv_has ls 8 [(0, .ref b), (1, .ref a1), (2, .ref a2), (3, .ref a3), (4, .int z.1)] → W p l e R s m #[Value.ref b] below meth c H locs (cells + 1) (slots + 6) Q (F0 m 23 ls [])) (kx : ∀ z : Sto, r = .inr z → ∀ (H : Heap) (locs : List Loc) (ls : Array Slot), Rep cA D Λ z H → va_S (frm s.heap.size) s.heap H locs → XK Λ sa s H → lv_has ls 8 [] → W p l e R s m #[Value.ref b] below meth c H locs (cells + 1) (slots + 6) Q (F0 m 1463 ls [])) (H : Heap) (locs : List Loc) (ls : Array Slot) (hR : Rep cA D Λ σ H) (hS : va_S (frm s.heap.size) s.heap H locs) (hXK : XK Λ sa s H) (hl : lv_has ls 8 [(0, .ref b), (1, .ref a1), (2, .ref a2), (3, .ref a3), (4, .int l4)]) : W p l e R s m #[Value.ref b] below meth c H locs cells slots Q (F0 m 164 ls []) := by
  have hx := X.1
  have hb := X.2.1
  have hown := X.2.2.2.2.1
  have hts := X.2.2.2.2.2.1
  have hbA : ¬ frm s.heap.size b := Nat.not_le.mpr hbl
  have hcs0 : cells ≤ R.cells ∧ slots ≤ R.slots := ⟨by omega, by omega⟩
  unfold jp_L_law_164 at h
  refine lv_aload_n hx hb dL_law_164 rfl (lv_at hl 1 rfl) ?_
  refine lv_aload_n hx hb dL_law_165 rfl (lv_at hl 0 rfl) ?_
  refine lv_iload hx hb dL_law_166 (lv_at hl 4 rfl) ?_
  refine lv_iconst (v := (1 : Int32)) hx hb dL_law_168 (by decide) ?_
  refine lv_iadd hx hb dL_law_169 ?_
  obtain ⟨hg_2, h⟩ := of_guard h
  refine va_sld hx hb hX hbl hbA hS (gd_in hg_2) dL_law_170 ?_
  refine lv_aload_n hx hb dL_law_171 rfl (lv_at hl 0 rfl) ?_
  refine lv_iload hx hb dL_law_172 (lv_at hl 4 rfl) ?_
  refine lv_iconst (v := (2 : Int32)) hx hb dL_law_174 (by decide) ?_
  refine lv_iadd hx hb dL_law_175 ?_
  obtain ⟨hg_3, h⟩ := of_guard h
  refine va_sld hx hb hX hbl hbA hS (gd_in hg_3) dL_law_176 ?_
  obtain ⟨q_4, hq_4, h⟩ := of_bind h
  refine cx_i (rn_V (As := [.int (xs (l4 + (1 : Int32)).toNatClampNeg), .int (xs (l4 + (2 : Int32)).toNatClampNeg)]) (rest := []) X hK hR k1 rfl (by decide) hl.1 (c_X4_page l cA D Λ hT σ a1 (xs (l4 + (1 : Int32)).toNatClampNeg) (xs (l4 + (2 : Int32)).toNatClampNeg) k1 hq_4) (cwV 2 hts gL_law_X4_page rfl rfl rfl (by decide +kernel) ⟨Nat.le_trans (by decide) hM.1, Nat.le_trans (by decide) hM.2⟩) rfl rfl (Nat.le_of_ble_eq_true rfl) dL_law_177 (hf := hcs0)) hS hdm hXK (fun H locs hR hS hXK => ?_)
  refine lv_aload_n hx hb dL_law_180 rfl (lv_at hl 2 rfl) ?_
  refine lv_aload_n hx hb dL_law_181 rfl (lv_at hl 0 rfl) ?_
  refine lv_iload hx hb dL_law_182 (lv_at hl 4 rfl) ?_
  refine lv_iconst (v := (1 : Int32)) hx hb dL_law_184 (by decide) ?_
  refine lv_iadd hx hb dL_law_185 ?_
  obtain ⟨hg_5, h⟩ := of_guard h
  refine va_sld hx hb hX hbl hbA hS (gd_in hg_5) dL_law_186 ?_
  refine lv_aload_n hx hb dL_law_187 rfl (lv_at hl 0 rfl) ?_
  refine lv_iload hx hb dL_law_188 (lv_at hl 4 rfl) ?_
  refine lv_iconst (v := (2 : Int32)) hx hb dL_law_190 (by decide) ?_
  refine lv_iadd hx hb dL_law_191 ?_
  obtain ⟨hg_6, h⟩ := of_guard h
  refine va_sld hx hb hX hbl hbA hS (gd_in hg_6) dL_law_192 ?_
  obtain ⟨q_7, hq_7, h⟩ := of_bind h
  refine cx_i (rn_V (As := [.int (xs (l4 + (1 : Int32)).toNatClampNeg), .int (xs (l4 + (2 : Int32)).toNatClampNeg)]) (rest := [.int q_4.1]) X hK hR k2 rfl (by decide) hl.1 (c_X5_page l cA D Λ hT q_4.2 a2 (xs (l4 + (1 : Int32)).toNatClampNeg) (xs (l4 + (2 : Int32)).toNatClampNeg) k2 hq_7) (cwV 2 hts gL_law_X5_page rfl rfl rfl (by decide +kernel) ⟨Nat.le_trans (by decide) hM.1, Nat.le_trans (by decide) hM.2⟩) rfl rfl (Nat.le_of_ble_eq_true rfl) dL_law_193 (hf := hcs0)) hS hdm hXK (fun H locs hR hS hXK => ?_)
  refine lv_icmp_eq (tgt := 1457) hx hb dL_law_196 (by decide) (fun hc => ?_) (fun hc => ?_)
  · have h := of_pos hc h
    obtain ⟨v_8, e_v_8⟩ : ∃ y : Int32, y = (l4 + (9 : Int32)) := ⟨_, rfl⟩
    have h := of_nm e_v_8 h
    refine lv_iinc (v := v_8) (lv' := [(4, .int v_8), (0, .ref b), (1, .ref a1), (2, .ref a2), (3, .ref a3)]) hx hb dL_law_1457 hl (k := 4) rfl (by rw [e_v_8]; rfl) (by decide) rfl (fun ls hl => ?_)
    refine lv_goto (tgt := 23) hx hb dL_law_1460 (by decide) ?_
    refine W.widen (k := cells + 1) (n := slots + 6) (Nat.le_succ _) (Nat.le_add_right _ _) ?_
    exact kb (v_8, q_7.2) (Option.some.inj h).symm H locs ls hR hS hXK (lv_sub hl [1, 2, 3, 4, 0] rfl)
  · have h := of_neg hc h
    cases h

set_option maxHeartbeats 4000000 in
set_option maxRecDepth 100000 in
theorem w_jp_L_law_201 (X : Cx cL_law (some .boolean) 8 RL wsL_law p s m #[Value.ref b] meth c) (hK : Kn cA D s) (hT : TL Λ) (hM : 8 ≤ R.frames ∧ 175 ≤ R.locals) (hlt : l.stackTraces = false) (hdm : ∀ q, dm Λ q → s.heap.size ≤ q) (hX : va_X b L xs s s.heap) (hbl : b < s.heap.size) (hcs : cells + 1 ≤ R.cells ∧ slots + 6 ≤ R.slots) (a1 a2 a3 : Nat) (k1 : isK Λ a1 5) (k2 : isK Λ a2 6) (k3 : isK Λ a3 8) (l4 : Int32) (σ : Sto) {r : (Int32 × Sto) ⊕ Sto} (h : jp_L_law_201 Λ xs L a1 a2 a3 l4 σ = some r) (kb : ∀ z : Int32 × Sto, r = .inl z → ∀ (H : Heap) (locs : List Loc) (ls : Array Slot), Rep cA D Λ z.2 H → va_S (frm s.heap.size) s.heap H locs → XK Λ sa s H → lv_has ls 8 [(0, .ref b), (1, .ref a1), (2, .ref a2), (3, .ref a3), (4, .int z.1)] → W p l e R s m #[Value.ref b] below meth c H locs (cells + 1) (slots + 6) Q (F0 m 23 ls [])) (kx : ∀ z : Sto, r = .inr z → ∀ (H : Heap) (locs : List Loc) (ls : Array Slot), Rep cA D Λ z H → va_S (frm s.heap.size) s.heap H locs → XK Λ sa s H → lv_has ls 8 [] → W p l e R s m #[Value.ref b] below meth c H locs (cells + 1) (slots + 6) Q (F0 m 1463 ls [])) (H : Heap) (locs : List Loc) (ls : Array Slot) (hR : Rep cA D Λ σ H) (hS : va_S (frm s.heap.size) s.heap H locs) (hXK : XK Λ sa s H) (hl : lv_has ls 8 [(0, .ref b), (1, .ref a1), (2, .ref a2), (3, .ref a3), (4, .int l4)]) : W p l e R s m #[Value.ref b] below meth c H locs cells slots Q (F0 m 201 ls []) := by
  have hx := X.1
  have hb := X.2.1
  have hown := X.2.2.2.2.1
  have hts := X.2.2.2.2.2.1
  have hbA : ¬ frm s.heap.size b := Nat.not_le.mpr hbl
  have hcs0 : cells ≤ R.cells ∧ slots ≤ R.slots := ⟨by omega, by omega⟩
  unfold jp_L_law_201 at h
  refine lv_aload_n hx hb dL_law_201 rfl (lv_at hl 1 rfl) ?_
  refine lv_aload_n hx hb dL_law_202 rfl (lv_at hl 0 rfl) ?_
  refine lv_iload hx hb dL_law_203 (lv_at hl 4 rfl) ?_
  refine lv_iconst (v := (1 : Int32)) hx hb dL_law_205 (by decide) ?_
  refine lv_iadd hx hb dL_law_206 ?_
  obtain ⟨hg_9, h⟩ := of_guard h
  refine va_sld hx hb hX hbl hbA hS (gd_in hg_9) dL_law_207 ?_
  obtain ⟨q_10, hq_10, h⟩ := of_bind h
  refine cx_i (rn_V (As := [.int (xs (l4 + (1 : Int32)).toNatClampNeg)]) (rest := []) X hK hR k1 rfl (by decide) hl.1 (c_X4_copy l cA D Λ hT σ a1 (xs (l4 + (1 : Int32)).toNatClampNeg) k1 hq_10) (cwV 1 hts gL_law_X4_copy rfl rfl rfl (by decide +kernel) ⟨Nat.le_trans (by decide) hM.1, Nat.le_trans (by decide) hM.2⟩) rfl rfl (Nat.le_of_ble_eq_true rfl) dL_law_208 (hf := hcs0)) hS hdm hXK (fun H locs hR hS hXK => ?_)
  refine lv_aload_n hx hb dL_law_211 rfl (lv_at hl 2 rfl) ?_
  refine lv_aload_n hx hb dL_law_212 rfl (lv_at hl 0 rfl) ?_
  refine lv_iload hx hb dL_law_213 (lv_at hl 4 rfl) ?_
  refine lv_iconst (v := (1 : Int32)) hx hb dL_law_215 (by decide) ?_
  refine lv_iadd hx hb dL_law_216 ?_
  obtain ⟨hg_11, h⟩ := of_guard h
  refine va_sld hx hb hX hbl hbA hS (gd_in hg_11) dL_law_217 ?_
  obtain ⟨q_12, hq_12, h⟩ := of_bind h
  refine cx_i (rn_V (As := [.int (xs (l4 + (1 : Int32)).toNatClampNeg)]) (rest := [.int q_10.1]) X hK hR k2 rfl (by decide) hl.1 (c_X5_copy l cA D Λ hT q_10.2 a2 (xs (l4 + (1 : Int32)).toNatClampNeg) k2 hq_12) (cwV 1 hts gL_law_X5_copy rfl rfl rfl (by decide +kernel) ⟨Nat.le_trans (by decide) hM.1, Nat.le_trans (by decide) hM.2⟩) rfl rfl (Nat.le_of_ble_eq_true rfl) dL_law_218 (hf := hcs0)) hS hdm hXK (fun H locs hR hS hXK => ?_)
  refine lv_icmp_eq (tgt := 1457) hx hb dL_law_221 (by decide) (fun hc => ?_) (fun hc => ?_)
  · have h := of_pos hc h
    obtain ⟨v_13, e_v_13⟩ : ∃ y : Int32, y = (l4 + (9 : Int32)) := ⟨_, rfl⟩
    have h := of_nm e_v_13 h
    refine lv_iinc (v := v_13) (lv' := [(4, .int v_13), (0, .ref b), (1, .ref a1), (2, .ref a2), (3, .ref a3)]) hx hb dL_law_1457 hl (k := 4) rfl (by rw [e_v_13]; rfl) (by decide) rfl (fun ls hl => ?_)
    refine lv_goto (tgt := 23) hx hb dL_law_1460 (by decide) ?_
    refine W.widen (k := cells + 1) (n := slots + 6) (Nat.le_succ _) (Nat.le_add_right _ _) ?_
    exact kb (v_13, q_12.2) (Option.some.inj h).symm H locs ls hR hS hXK (lv_sub hl [1, 2, 3, 4, 0] rfl)
  · have h := of_neg hc h
    cases h

set_option maxHeartbeats 4000000 in
set_option maxRecDepth 100000 in
theorem w_jp_L_law_226 (X : Cx cL_law (some .boolean) 8 RL wsL_law p s m #[Value.ref b] meth c) (hK : Kn cA D s) (hT : TL Λ) (hM : 8 ≤ R.frames ∧ 175 ≤ R.locals) (hlt : l.stackTraces = false) (hdm : ∀ q, dm Λ q → s.heap.size ≤ q) (hX : va_X b L xs s s.heap) (hbl : b < s.heap.size) (hcs : cells + 1 ≤ R.cells ∧ slots + 6 ≤ R.slots) (a1 a2 a3 : Nat) (k1 : isK Λ a1 5) (k2 : isK Λ a2 6) (k3 : isK Λ a3 8) (l4 : Int32) (σ : Sto) {r : (Int32 × Sto) ⊕ Sto} (h : jp_L_law_226 Λ xs L a1 a2 a3 l4 σ = some r) (kb : ∀ z : Int32 × Sto, r = .inl z → ∀ (H : Heap) (locs : List Loc) (ls : Array Slot), Rep cA D Λ z.2 H → va_S (frm s.heap.size) s.heap H locs → XK Λ sa s H → lv_has ls 8 [(0, .ref b), (1, .ref a1), (2, .ref a2), (3, .ref a3), (4, .int z.1)] → W p l e R s m #[Value.ref b] below meth c H locs (cells + 1) (slots + 6) Q (F0 m 23 ls [])) (kx : ∀ z : Sto, r = .inr z → ∀ (H : Heap) (locs : List Loc) (ls : Array Slot), Rep cA D Λ z H → va_S (frm s.heap.size) s.heap H locs → XK Λ sa s H → lv_has ls 8 [] → W p l e R s m #[Value.ref b] below meth c H locs (cells + 1) (slots + 6) Q (F0 m 1463 ls [])) (H : Heap) (locs : List Loc) (ls : Array Slot) (hR : Rep cA D Λ σ H) (hS : va_S (frm s.heap.size) s.heap H locs) (hXK : XK Λ sa s H) (hl : lv_has ls 8 [(0, .ref b), (1, .ref a1), (2, .ref a2), (3, .ref a3), (4, .int l4)]) : W p l e R s m #[Value.ref b] below meth c H locs cells slots Q (F0 m 226 ls []) := by
  have hx := X.1
  have hb := X.2.1
  have hown := X.2.2.2.2.1
  have hts := X.2.2.2.2.2.1
  have hbA : ¬ frm s.heap.size b := Nat.not_le.mpr hbl
  have hcs0 : cells ≤ R.cells ∧ slots ≤ R.slots := ⟨by omega, by omega⟩
  unfold jp_L_law_226 at h
  refine lv_aload_n hx hb dL_law_226 rfl (lv_at hl 1 rfl) ?_
  refine lv_aload_n hx hb dL_law_227 rfl (lv_at hl 0 rfl) ?_
  refine lv_iload hx hb dL_law_228 (lv_at hl 4 rfl) ?_
  refine lv_iconst (v := (1 : Int32)) hx hb dL_law_230 (by decide) ?_
  refine lv_iadd hx hb dL_law_231 ?_
  obtain ⟨hg_14, h⟩ := of_guard h
  refine va_sld hx hb hX hbl hbA hS (gd_in hg_14) dL_law_232 ?_
  refine lv_aload_n hx hb dL_law_233 rfl (lv_at hl 0 rfl) ?_
  refine lv_iload hx hb dL_law_234 (lv_at hl 4 rfl) ?_
  refine lv_iconst (v := (2 : Int32)) hx hb dL_law_236 (by decide) ?_
  refine lv_iadd hx hb dL_law_237 ?_
  obtain ⟨hg_15, h⟩ := of_guard h
  refine va_sld hx hb hX hbl hbA hS (gd_in hg_15) dL_law_238 ?_
  refine lv_aload_n hx hb dL_law_239 rfl (lv_at hl 0 rfl) ?_
  refine lv_iload hx hb dL_law_240 (lv_at hl 4 rfl) ?_
  refine lv_iconst (v := (3 : Int32)) hx hb dL_law_242 (by decide) ?_
  refine lv_iadd hx hb dL_law_243 ?_
  obtain ⟨hg_16, h⟩ := of_guard h
  refine va_sld hx hb hX hbl hbA hS (gd_in hg_16) dL_law_244 ?_
  refine lv_aload_n hx hb dL_law_245 rfl (lv_at hl 0 rfl) ?_
  refine lv_iload hx hb dL_law_246 (lv_at hl 4 rfl) ?_
  refine lv_iconst (v := (4 : Int32)) hx hb dL_law_248 (by decide) ?_
  refine lv_iadd hx hb dL_law_249 ?_
  obtain ⟨hg_17, h⟩ := of_guard h
  refine va_sld hx hb hX hbl hbA hS (gd_in hg_17) dL_law_250 ?_
  refine lv_if_eq (tgt := 258) hx hb dL_law_251 (by decide) (fun hc => ?_) (fun hc => ?_)
  · have h := of_pos hc h
    refine lv_iconst (v := (0 : Int32)) hx hb dL_law_258 (by decide) ?_
    obtain ⟨q_18, hq_18, h⟩ := of_bind h
    refine cx_z (rn_V (As := [.int (xs (l4 + (1 : Int32)).toNatClampNeg), .int (xs (l4 + (2 : Int32)).toNatClampNeg), .int (xs (l4 + (3 : Int32)).toNatClampNeg), .int (0 : Int32)]) (rest := []) X hK hR k1 rfl (by decide) hl.1 (c_X4_set l cA D Λ hT σ a1 (xs (l4 + (1 : Int32)).toNatClampNeg) (xs (l4 + (2 : Int32)).toNatClampNeg) (xs (l4 + (3 : Int32)).toNatClampNeg) (0 : Int32) k1 hq_18) (cwV 4 hts gL_law_X4_set rfl rfl rfl (by decide +kernel) ⟨Nat.le_trans (by decide) hM.1, Nat.le_trans (by decide) hM.2⟩) rfl rfl (Nat.le_of_ble_eq_true rfl) dL_law_259 (hf := hcs0)) hS hdm hXK (fun H locs hR hS hXK => ?_)
    refine lv_aload_n hx hb dL_law_262 rfl (lv_at hl 2 rfl) ?_
    refine lv_aload_n hx hb dL_law_263 rfl (lv_at hl 0 rfl) ?_
    refine lv_iload hx hb dL_law_264 (lv_at hl 4 rfl) ?_
    refine lv_iconst (v := (1 : Int32)) hx hb dL_law_266 (by decide) ?_
    refine lv_iadd hx hb dL_law_267 ?_
    obtain ⟨hg_19, h⟩ := of_guard h
    refine va_sld hx hb hX hbl hbA hS (gd_in hg_19) dL_law_268 ?_
    refine lv_aload_n hx hb dL_law_269 rfl (lv_at hl 0 rfl) ?_
    refine lv_iload hx hb dL_law_270 (lv_at hl 4 rfl) ?_
    refine lv_iconst (v := (2 : Int32)) hx hb dL_law_272 (by decide) ?_
    refine lv_iadd hx hb dL_law_273 ?_
    obtain ⟨hg_20, h⟩ := of_guard h
    refine va_sld hx hb hX hbl hbA hS (gd_in hg_20) dL_law_274 ?_
    refine lv_aload_n hx hb dL_law_275 rfl (lv_at hl 0 rfl) ?_
    refine lv_iload hx hb dL_law_276 (lv_at hl 4 rfl) ?_
    refine lv_iconst (v := (3 : Int32)) hx hb dL_law_278 (by decide) ?_
    refine lv_iadd hx hb dL_law_279 ?_
    obtain ⟨hg_21, h⟩ := of_guard h
    refine va_sld hx hb hX hbl hbA hS (gd_in hg_21) dL_law_280 ?_
    refine lv_aload_n hx hb dL_law_281 rfl (lv_at hl 0 rfl) ?_
    refine lv_iload hx hb dL_law_282 (lv_at hl 4 rfl) ?_
    refine lv_iconst (v := (4 : Int32)) hx hb dL_law_284 (by decide) ?_
    refine lv_iadd hx hb dL_law_285 ?_
    obtain ⟨hg_22, h⟩ := of_guard h
    refine va_sld hx hb hX hbl hbA hS (gd_in hg_22) dL_law_286 ?_
    refine lv_if_eq (tgt := 294) hx hb dL_law_287 (by decide) (fun hc => ?_) (fun hc => ?_)
    · have h := of_pos hc h
      refine lv_iconst (v := (0 : Int32)) hx hb dL_law_294 (by decide) ?_
      obtain ⟨q_23, hq_23, h⟩ := of_bind h
      refine cx_z (rn_V (As := [.int (xs (l4 + (1 : Int32)).toNatClampNeg), .int (xs (l4 + (2 : Int32)).toNatClampNeg), .int (xs (l4 + (3 : Int32)).toNatClampNeg), .int (0 : Int32)]) (rest := [.int q_18.1]) X hK hR k2 rfl (by decide) hl.1 (c_X5_set l cA D Λ hT q_18.2 a2 (xs (l4 + (1 : Int32)).toNatClampNeg) (xs (l4 + (2 : Int32)).toNatClampNeg) (xs (l4 + (3 : Int32)).toNatClampNeg) (0 : Int32) k2 hq_23) (cwV 4 hts gL_law_X5_set rfl rfl rfl (by decide +kernel) ⟨Nat.le_trans (by decide) hM.1, Nat.le_trans (by decide) hM.2⟩) rfl rfl (Nat.le_of_ble_eq_true rfl) dL_law_295 (hf := hcs0)) hS hdm hXK (fun H locs hR hS hXK => ?_)
      refine lv_icmp_eq (tgt := 1457) hx hb dL_law_298 (by decide) (fun hc => ?_) (fun hc => ?_)
      · have h := of_pos hc h
        obtain ⟨v_24, e_v_24⟩ : ∃ y : Int32, y = (l4 + (9 : Int32)) := ⟨_, rfl⟩
        have h := of_nm e_v_24 h
        refine lv_iinc (v := v_24) (lv' := [(4, .int v_24), (0, .ref b), (1, .ref a1), (2, .ref a2), (3, .ref a3)]) hx hb dL_law_1457 hl (k := 4) rfl (by rw [e_v_24]; rfl) (by decide) rfl (fun ls hl => ?_)
        refine lv_goto (tgt := 23) hx hb dL_law_1460 (by decide) ?_
        refine W.widen (k := cells + 1) (n := slots + 6) (Nat.le_succ _) (Nat.le_add_right _ _) ?_
        exact kb (v_24, q_23.2) (Option.some.inj h).symm H locs ls hR hS hXK (lv_sub hl [1, 2, 3, 4, 0] rfl)
      · have h := of_neg hc h
        cases h
    · have h := of_neg hc h
      refine lv_iconst (v := (1 : Int32)) hx hb dL_law_290 (by decide) ?_
      refine lv_goto (tgt := 295) hx hb dL_law_291 (by decide) ?_
      obtain ⟨q_25, hq_25, h⟩ := of_bind h
      refine cx_z (rn_V (As := [.int (xs (l4 + (1 : Int32)).toNatClampNeg), .int (xs (l4 + (2 : Int32)).toNatClampNeg), .int (xs (l4 + (3 : Int32)).toNatClampNeg), .int (1 : Int32)]) (rest := [.int q_18.1]) X hK hR k2 rfl (by decide) hl.1 (c_X5_set l cA D Λ hT q_18.2 a2 (xs (l4 + (1 : Int32)).toNatClampNeg) (xs (l4 + (2 : Int32)).toNatClampNeg) (xs (l4 + (3 : Int32)).toNatClampNeg) (1 : Int32) k2 hq_25) (cwV 4 hts gL_law_X5_set rfl rfl rfl (by decide +kernel) ⟨Nat.le_trans (by decide) hM.1, Nat.le_trans (by decide) hM.2⟩) rfl rfl (Nat.le_of_ble_eq_true rfl) dL_law_295 (hf := hcs0)) hS hdm hXK (fun H locs hR hS hXK => ?_)
      refine lv_icmp_eq (tgt := 1457) hx hb dL_law_298 (by decide) (fun hc => ?_) (fun hc => ?_)
      · have h := of_pos hc h
        obtain ⟨v_26, e_v_26⟩ : ∃ y : Int32, y = (l4 + (9 : Int32)) := ⟨_, rfl⟩
        have h := of_nm e_v_26 h
        refine lv_iinc (v := v_26) (lv' := [(4, .int v_26), (0, .ref b), (1, .ref a1), (2, .ref a2), (3, .ref a3)]) hx hb dL_law_1457 hl (k := 4) rfl (by rw [e_v_26]; rfl) (by decide) rfl (fun ls hl => ?_)
        refine lv_goto (tgt := 23) hx hb dL_law_1460 (by decide) ?_
        refine W.widen (k := cells + 1) (n := slots + 6) (Nat.le_succ _) (Nat.le_add_right _ _) ?_
        exact kb (v_26, q_25.2) (Option.some.inj h).symm H locs ls hR hS hXK (lv_sub hl [1, 2, 3, 4, 0] rfl)
      · have h := of_neg hc h
        cases h
  · have h := of_neg hc h
    refine lv_iconst (v := (1 : Int32)) hx hb dL_law_254 (by decide) ?_
    refine lv_goto (tgt := 259) hx hb dL_law_255 (by decide) ?_
    obtain ⟨q_27, hq_27, h⟩ := of_bind h
    refine cx_z (rn_V (As := [.int (xs (l4 + (1 : Int32)).toNatClampNeg), .int (xs (l4 + (2 : Int32)).toNatClampNeg), .int (xs (l4 + (3 : Int32)).toNatClampNeg), .int (1 : Int32)]) (rest := []) X hK hR k1 rfl (by decide) hl.1 (c_X4_set l cA D Λ hT σ a1 (xs (l4 + (1 : Int32)).toNatClampNeg) (xs (l4 + (2 : Int32)).toNatClampNeg) (xs (l4 + (3 : Int32)).toNatClampNeg) (1 : Int32) k1 hq_27) (cwV 4 hts gL_law_X4_set rfl rfl rfl (by decide +kernel) ⟨Nat.le_trans (by decide) hM.1, Nat.le_trans (by decide) hM.2⟩) rfl rfl (Nat.le_of_ble_eq_true rfl) dL_law_259 (hf := hcs0)) hS hdm hXK (fun H locs hR hS hXK => ?_)
    refine lv_aload_n hx hb dL_law_262 rfl (lv_at hl 2 rfl) ?_
    refine lv_aload_n hx hb dL_law_263 rfl (lv_at hl 0 rfl) ?_
    refine lv_iload hx hb dL_law_264 (lv_at hl 4 rfl) ?_
    refine lv_iconst (v := (1 : Int32)) hx hb dL_law_266 (by decide) ?_
    refine lv_iadd hx hb dL_law_267 ?_
    obtain ⟨hg_28, h⟩ := of_guard h
    refine va_sld hx hb hX hbl hbA hS (gd_in hg_28) dL_law_268 ?_
    refine lv_aload_n hx hb dL_law_269 rfl (lv_at hl 0 rfl) ?_
    refine lv_iload hx hb dL_law_270 (lv_at hl 4 rfl) ?_
    refine lv_iconst (v := (2 : Int32)) hx hb dL_law_272 (by decide) ?_
    refine lv_iadd hx hb dL_law_273 ?_
    obtain ⟨hg_29, h⟩ := of_guard h
    refine va_sld hx hb hX hbl hbA hS (gd_in hg_29) dL_law_274 ?_
    refine lv_aload_n hx hb dL_law_275 rfl (lv_at hl 0 rfl) ?_
    refine lv_iload hx hb dL_law_276 (lv_at hl 4 rfl) ?_
    refine lv_iconst (v := (3 : Int32)) hx hb dL_law_278 (by decide) ?_
    refine lv_iadd hx hb dL_law_279 ?_
    obtain ⟨hg_30, h⟩ := of_guard h
    refine va_sld hx hb hX hbl hbA hS (gd_in hg_30) dL_law_280 ?_
    refine lv_aload_n hx hb dL_law_281 rfl (lv_at hl 0 rfl) ?_
    refine lv_iload hx hb dL_law_282 (lv_at hl 4 rfl) ?_
    refine lv_iconst (v := (4 : Int32)) hx hb dL_law_284 (by decide) ?_
    refine lv_iadd hx hb dL_law_285 ?_
    obtain ⟨hg_31, h⟩ := of_guard h
    refine va_sld hx hb hX hbl hbA hS (gd_in hg_31) dL_law_286 ?_
    refine lv_if_eq (tgt := 294) hx hb dL_law_287 (by decide) (fun hc => ?_) (fun hc => ?_)
    · have h := of_pos hc h
      refine lv_iconst (v := (0 : Int32)) hx hb dL_law_294 (by decide) ?_
      obtain ⟨q_32, hq_32, h⟩ := of_bind h
      refine cx_z (rn_V (As := [.int (xs (l4 + (1 : Int32)).toNatClampNeg), .int (xs (l4 + (2 : Int32)).toNatClampNeg), .int (xs (l4 + (3 : Int32)).toNatClampNeg), .int (0 : Int32)]) (rest := [.int q_27.1]) X hK hR k2 rfl (by decide) hl.1 (c_X5_set l cA D Λ hT q_27.2 a2 (xs (l4 + (1 : Int32)).toNatClampNeg) (xs (l4 + (2 : Int32)).toNatClampNeg) (xs (l4 + (3 : Int32)).toNatClampNeg) (0 : Int32) k2 hq_32) (cwV 4 hts gL_law_X5_set rfl rfl rfl (by decide +kernel) ⟨Nat.le_trans (by decide) hM.1, Nat.le_trans (by decide) hM.2⟩) rfl rfl (Nat.le_of_ble_eq_true rfl) dL_law_295 (hf := hcs0)) hS hdm hXK (fun H locs hR hS hXK => ?_)
      refine lv_icmp_eq (tgt := 1457) hx hb dL_law_298 (by decide) (fun hc => ?_) (fun hc => ?_)
      · have h := of_pos hc h
        obtain ⟨v_33, e_v_33⟩ : ∃ y : Int32, y = (l4 + (9 : Int32)) := ⟨_, rfl⟩
        have h := of_nm e_v_33 h
        refine lv_iinc (v := v_33) (lv' := [(4, .int v_33), (0, .ref b), (1, .ref a1), (2, .ref a2), (3, .ref a3)]) hx hb dL_law_1457 hl (k := 4) rfl (by rw [e_v_33]; rfl) (by decide) rfl (fun ls hl => ?_)
        refine lv_goto (tgt := 23) hx hb dL_law_1460 (by decide) ?_
        refine W.widen (k := cells + 1) (n := slots + 6) (Nat.le_succ _) (Nat.le_add_right _ _) ?_
        exact kb (v_33, q_32.2) (Option.some.inj h).symm H locs ls hR hS hXK (lv_sub hl [1, 2, 3, 4, 0] rfl)
      · have h := of_neg hc h
        cases h
    · have h := of_neg hc h
      refine lv_iconst (v := (1 : Int32)) hx hb dL_law_290 (by decide) ?_
      refine lv_goto (tgt := 295) hx hb dL_law_291 (by decide) ?_
      obtain ⟨q_34, hq_34, h⟩ := of_bind h
      refine cx_z (rn_V (As := [.int (xs (l4 + (1 : Int32)).toNatClampNeg), .int (xs (l4 + (2 : Int32)).toNatClampNeg), .int (xs (l4 + (3 : Int32)).toNatClampNeg), .int (1 : Int32)]) (rest := [.int q_27.1]) X hK hR k2 rfl (by decide) hl.1 (c_X5_set l cA D Λ hT q_27.2 a2 (xs (l4 + (1 : Int32)).toNatClampNeg) (xs (l4 + (2 : Int32)).toNatClampNeg) (xs (l4 + (3 : Int32)).toNatClampNeg) (1 : Int32) k2 hq_34) (cwV 4 hts gL_law_X5_set rfl rfl rfl (by decide +kernel) ⟨Nat.le_trans (by decide) hM.1, Nat.le_trans (by decide) hM.2⟩) rfl rfl (Nat.le_of_ble_eq_true rfl) dL_law_295 (hf := hcs0)) hS hdm hXK (fun H locs hR hS hXK => ?_)
      refine lv_icmp_eq (tgt := 1457) hx hb dL_law_298 (by decide) (fun hc => ?_) (fun hc => ?_)
      · have h := of_pos hc h
        obtain ⟨v_35, e_v_35⟩ : ∃ y : Int32, y = (l4 + (9 : Int32)) := ⟨_, rfl⟩
        have h := of_nm e_v_35 h
        refine lv_iinc (v := v_35) (lv' := [(4, .int v_35), (0, .ref b), (1, .ref a1), (2, .ref a2), (3, .ref a3)]) hx hb dL_law_1457 hl (k := 4) rfl (by rw [e_v_35]; rfl) (by decide) rfl (fun ls hl => ?_)
        refine lv_goto (tgt := 23) hx hb dL_law_1460 (by decide) ?_
        refine W.widen (k := cells + 1) (n := slots + 6) (Nat.le_succ _) (Nat.le_add_right _ _) ?_
        exact kb (v_35, q_34.2) (Option.some.inj h).symm H locs ls hR hS hXK (lv_sub hl [1, 2, 3, 4, 0] rfl)
      · have h := of_neg hc h
        cases h

set_option maxHeartbeats 4000000 in
set_option maxRecDepth 100000 in
theorem w_jp_L_law_303 (X : Cx cL_law (some .boolean) 8 RL wsL_law p s m #[Value.ref b] meth c) (hK : Kn cA D s) (hT : TL Λ) (hM : 8 ≤ R.frames ∧ 175 ≤ R.locals) (hlt : l.stackTraces = false) (hdm : ∀ q, dm Λ q → s.heap.size ≤ q) (hX : va_X b L xs s s.heap) (hbl : b < s.heap.size) (hcs : cells + 1 ≤ R.cells ∧ slots + 6 ≤ R.slots) (a1 a2 a3 : Nat) (k1 : isK Λ a1 5) (k2 : isK Λ a2 6) (k3 : isK Λ a3 8) (l4 : Int32) (σ : Sto) {r : (Int32 × Sto) ⊕ Sto} (h : jp_L_law_303 Λ xs L a1 a2 a3 l4 σ = some r) (kb : ∀ z : Int32 × Sto, r = .inl z → ∀ (H : Heap) (locs : List Loc) (ls : Array Slot), Rep cA D Λ z.2 H → va_S (frm s.heap.size) s.heap H locs → XK Λ sa s H → lv_has ls 8 [(0, .ref b), (1, .ref a1), (2, .ref a2), (3, .ref a3), (4, .int z.1)] → W p l e R s m #[Value.ref b] below meth c H locs (cells + 1) (slots + 6) Q (F0 m 23 ls [])) (kx : ∀ z : Sto, r = .inr z → ∀ (H : Heap) (locs : List Loc) (ls : Array Slot), Rep cA D Λ z H → va_S (frm s.heap.size) s.heap H locs → XK Λ sa s H → lv_has ls 8 [] → W p l e R s m #[Value.ref b] below meth c H locs (cells + 1) (slots + 6) Q (F0 m 1463 ls [])) (H : Heap) (locs : List Loc) (ls : Array Slot) (hR : Rep cA D Λ σ H) (hS : va_S (frm s.heap.size) s.heap H locs) (hXK : XK Λ sa s H) (hl : lv_has ls 8 [(0, .ref b), (1, .ref a1), (2, .ref a2), (3, .ref a3), (4, .int l4)]) : W p l e R s m #[Value.ref b] below meth c H locs cells slots Q (F0 m 303 ls []) := by
  have hx := X.1
  have hb := X.2.1
  have hown := X.2.2.2.2.1
  have hts := X.2.2.2.2.2.1
  have hbA : ¬ frm s.heap.size b := Nat.not_le.mpr hbl
  have hcs0 : cells ≤ R.cells ∧ slots ≤ R.slots := ⟨by omega, by omega⟩
  unfold jp_L_law_303 at h
  refine lv_aload_n hx hb dL_law_303 rfl (lv_at hl 1 rfl) ?_
  refine lv_aload_n hx hb dL_law_304 rfl (lv_at hl 0 rfl) ?_
  refine lv_iload hx hb dL_law_305 (lv_at hl 4 rfl) ?_
  refine lv_iconst (v := (1 : Int32)) hx hb dL_law_307 (by decide) ?_
  refine lv_iadd hx hb dL_law_308 ?_
  obtain ⟨hg_36, h⟩ := of_guard h
  refine va_sld hx hb hX hbl hbA hS (gd_in hg_36) dL_law_309 ?_
  refine lv_aload_n hx hb dL_law_310 rfl (lv_at hl 0 rfl) ?_
  refine lv_iload hx hb dL_law_311 (lv_at hl 4 rfl) ?_
  refine lv_iconst (v := (2 : Int32)) hx hb dL_law_313 (by decide) ?_
  refine lv_iadd hx hb dL_law_314 ?_
  obtain ⟨hg_37, h⟩ := of_guard h
  refine va_sld hx hb hX hbl hbA hS (gd_in hg_37) dL_law_315 ?_
  refine lv_aload_n hx hb dL_law_316 rfl (lv_at hl 0 rfl) ?_
  refine lv_iload hx hb dL_law_317 (lv_at hl 4 rfl) ?_
  refine lv_iconst (v := (3 : Int32)) hx hb dL_law_319 (by decide) ?_
  refine lv_iadd hx hb dL_law_320 ?_
  obtain ⟨hg_38, h⟩ := of_guard h
  refine va_sld hx hb hX hbl hbA hS (gd_in hg_38) dL_law_321 ?_
  refine lv_i2l (v := ((xs (l4 + (3 : Int32)).toNatClampNeg).toInt64)) hx hb dL_law_322 rfl ?_
  refine lv_bipush (v := (32 : Int32)) hx hb dL_law_323 (by decide) ?_
  refine lv_lshl (v := (shlL ((xs (l4 + (3 : Int32)).toNatClampNeg).toInt64) (32 : Int32))) hx hb dL_law_325 rfl ?_
  refine lv_aload_n hx hb dL_law_326 rfl (lv_at hl 0 rfl) ?_
  refine lv_iload hx hb dL_law_327 (lv_at hl 4 rfl) ?_
  refine lv_iconst (v := (4 : Int32)) hx hb dL_law_329 (by decide) ?_
  refine lv_iadd hx hb dL_law_330 ?_
  obtain ⟨hg_39, h⟩ := of_guard h
  refine va_sld hx hb hX hbl hbA hS (gd_in hg_39) dL_law_331 ?_
  refine lv_i2l (v := ((xs (l4 + (4 : Int32)).toNatClampNeg).toInt64)) hx hb dL_law_332 rfl ?_
  refine lv_ldc2 (v := (4294967295 : Int64)) hx hb hown (hts (.constantLong RL 40 (4294967295)) (by decide +kernel)) dL_law_333 ?_
  refine lv_land hx hb dL_law_336 ?_
  refine lv_lor hx hb dL_law_337 ?_
  obtain ⟨q_40, hq_40, h⟩ := of_bind h
  refine cx_i (rn_V (As := [.int (xs (l4 + (1 : Int32)).toNatClampNeg), .int (xs (l4 + (2 : Int32)).toNatClampNeg), .long ((shlL ((xs (l4 + (3 : Int32)).toNatClampNeg).toInt64) (32 : Int32)) ||| (((xs (l4 + (4 : Int32)).toNatClampNeg).toInt64) &&& (4294967295 : Int64)))]) (rest := []) X hK hR k1 rfl (by decide) hl.1 (c_X4_line l cA D Λ hT σ a1 (xs (l4 + (1 : Int32)).toNatClampNeg) (xs (l4 + (2 : Int32)).toNatClampNeg) ((shlL ((xs (l4 + (3 : Int32)).toNatClampNeg).toInt64) (32 : Int32)) ||| (((xs (l4 + (4 : Int32)).toNatClampNeg).toInt64) &&& (4294967295 : Int64))) k1 hq_40) (cwV 3 hts gL_law_X4_line rfl rfl rfl (by decide +kernel) ⟨Nat.le_trans (by decide) hM.1, Nat.le_trans (by decide) hM.2⟩) rfl rfl (Nat.le_of_ble_eq_true rfl) dL_law_338 (hf := hcs0)) hS hdm hXK (fun H locs hR hS hXK => ?_)
  refine lv_aload_n hx hb dL_law_341 rfl (lv_at hl 2 rfl) ?_
  refine lv_aload_n hx hb dL_law_342 rfl (lv_at hl 0 rfl) ?_
  refine lv_iload hx hb dL_law_343 (lv_at hl 4 rfl) ?_
  refine lv_iconst (v := (1 : Int32)) hx hb dL_law_345 (by decide) ?_
  refine lv_iadd hx hb dL_law_346 ?_
  obtain ⟨hg_41, h⟩ := of_guard h
  refine va_sld hx hb hX hbl hbA hS (gd_in hg_41) dL_law_347 ?_
  refine lv_aload_n hx hb dL_law_348 rfl (lv_at hl 0 rfl) ?_
  refine lv_iload hx hb dL_law_349 (lv_at hl 4 rfl) ?_
  refine lv_iconst (v := (2 : Int32)) hx hb dL_law_351 (by decide) ?_
  refine lv_iadd hx hb dL_law_352 ?_
  obtain ⟨hg_42, h⟩ := of_guard h
  refine va_sld hx hb hX hbl hbA hS (gd_in hg_42) dL_law_353 ?_
  refine lv_aload_n hx hb dL_law_354 rfl (lv_at hl 0 rfl) ?_
  refine lv_iload hx hb dL_law_355 (lv_at hl 4 rfl) ?_
  refine lv_iconst (v := (3 : Int32)) hx hb dL_law_357 (by decide) ?_
  refine lv_iadd hx hb dL_law_358 ?_
  obtain ⟨hg_43, h⟩ := of_guard h
  refine va_sld hx hb hX hbl hbA hS (gd_in hg_43) dL_law_359 ?_
  refine lv_i2l (v := ((xs (l4 + (3 : Int32)).toNatClampNeg).toInt64)) hx hb dL_law_360 rfl ?_
  refine lv_bipush (v := (32 : Int32)) hx hb dL_law_361 (by decide) ?_
  refine lv_lshl (v := (shlL ((xs (l4 + (3 : Int32)).toNatClampNeg).toInt64) (32 : Int32))) hx hb dL_law_363 rfl ?_
  refine lv_aload_n hx hb dL_law_364 rfl (lv_at hl 0 rfl) ?_
  refine lv_iload hx hb dL_law_365 (lv_at hl 4 rfl) ?_
  refine lv_iconst (v := (4 : Int32)) hx hb dL_law_367 (by decide) ?_
  refine lv_iadd hx hb dL_law_368 ?_
  obtain ⟨hg_44, h⟩ := of_guard h
  refine va_sld hx hb hX hbl hbA hS (gd_in hg_44) dL_law_369 ?_
  refine lv_i2l (v := ((xs (l4 + (4 : Int32)).toNatClampNeg).toInt64)) hx hb dL_law_370 rfl ?_
  refine lv_ldc2 (v := (4294967295 : Int64)) hx hb hown (hts (.constantLong RL 40 (4294967295)) (by decide +kernel)) dL_law_371 ?_
  refine lv_land hx hb dL_law_374 ?_
  refine lv_lor hx hb dL_law_375 ?_
  obtain ⟨q_45, hq_45, h⟩ := of_bind h
  refine cx_i (rn_V (As := [.int (xs (l4 + (1 : Int32)).toNatClampNeg), .int (xs (l4 + (2 : Int32)).toNatClampNeg), .long ((shlL ((xs (l4 + (3 : Int32)).toNatClampNeg).toInt64) (32 : Int32)) ||| (((xs (l4 + (4 : Int32)).toNatClampNeg).toInt64) &&& (4294967295 : Int64)))]) (rest := [.int q_40.1]) X hK hR k2 rfl (by decide) hl.1 (c_X5_line l cA D Λ hT q_40.2 a2 (xs (l4 + (1 : Int32)).toNatClampNeg) (xs (l4 + (2 : Int32)).toNatClampNeg) ((shlL ((xs (l4 + (3 : Int32)).toNatClampNeg).toInt64) (32 : Int32)) ||| (((xs (l4 + (4 : Int32)).toNatClampNeg).toInt64) &&& (4294967295 : Int64))) k2 hq_45) (cwV 3 hts gL_law_X5_line rfl rfl rfl (by decide +kernel) ⟨Nat.le_trans (by decide) hM.1, Nat.le_trans (by decide) hM.2⟩) rfl rfl (Nat.le_of_ble_eq_true rfl) dL_law_376 (hf := hcs0)) hS hdm hXK (fun H locs hR hS hXK => ?_)
  refine lv_icmp_eq (tgt := 1457) hx hb dL_law_379 (by decide) (fun hc => ?_) (fun hc => ?_)
  · have h := of_pos hc h
    obtain ⟨v_46, e_v_46⟩ : ∃ y : Int32, y = (l4 + (9 : Int32)) := ⟨_, rfl⟩
    have h := of_nm e_v_46 h
    refine lv_iinc (v := v_46) (lv' := [(4, .int v_46), (0, .ref b), (1, .ref a1), (2, .ref a2), (3, .ref a3)]) hx hb dL_law_1457 hl (k := 4) rfl (by rw [e_v_46]; rfl) (by decide) rfl (fun ls hl => ?_)
    refine lv_goto (tgt := 23) hx hb dL_law_1460 (by decide) ?_
    refine W.widen (k := cells + 1) (n := slots + 6) (Nat.le_succ _) (Nat.le_add_right _ _) ?_
    exact kb (v_46, q_45.2) (Option.some.inj h).symm H locs ls hR hS hXK (lv_sub hl [1, 2, 3, 4, 0] rfl)
  · have h := of_neg hc h
    cases h

set_option maxHeartbeats 4000000 in
set_option maxRecDepth 100000 in
theorem w_jp_L_law_384 (X : Cx cL_law (some .boolean) 8 RL wsL_law p s m #[Value.ref b] meth c) (hK : Kn cA D s) (hT : TL Λ) (hM : 8 ≤ R.frames ∧ 175 ≤ R.locals) (hlt : l.stackTraces = false) (hdm : ∀ q, dm Λ q → s.heap.size ≤ q) (hX : va_X b L xs s s.heap) (hbl : b < s.heap.size) (hcs : cells + 1 ≤ R.cells ∧ slots + 6 ≤ R.slots) (a1 a2 a3 : Nat) (k1 : isK Λ a1 5) (k2 : isK Λ a2 6) (k3 : isK Λ a3 8) (l4 : Int32) (σ : Sto) {r : (Int32 × Sto) ⊕ Sto} (h : jp_L_law_384 Λ xs L a1 a2 a3 l4 σ = some r) (kb : ∀ z : Int32 × Sto, r = .inl z → ∀ (H : Heap) (locs : List Loc) (ls : Array Slot), Rep cA D Λ z.2 H → va_S (frm s.heap.size) s.heap H locs → XK Λ sa s H → lv_has ls 8 [(0, .ref b), (1, .ref a1), (2, .ref a2), (3, .ref a3), (4, .int z.1)] → W p l e R s m #[Value.ref b] below meth c H locs (cells + 1) (slots + 6) Q (F0 m 23 ls [])) (kx : ∀ z : Sto, r = .inr z → ∀ (H : Heap) (locs : List Loc) (ls : Array Slot), Rep cA D Λ z H → va_S (frm s.heap.size) s.heap H locs → XK Λ sa s H → lv_has ls 8 [] → W p l e R s m #[Value.ref b] below meth c H locs (cells + 1) (slots + 6) Q (F0 m 1463 ls [])) (H : Heap) (locs : List Loc) (ls : Array Slot) (hR : Rep cA D Λ σ H) (hS : va_S (frm s.heap.size) s.heap H locs) (hXK : XK Λ sa s H) (hl : lv_has ls 8 [(0, .ref b), (1, .ref a1), (2, .ref a2), (3, .ref a3), (4, .int l4)]) : W p l e R s m #[Value.ref b] below meth c H locs cells slots Q (F0 m 384 ls []) := by
  have hx := X.1
  have hb := X.2.1
  have hown := X.2.2.2.2.1
  have hts := X.2.2.2.2.2.1
  have hbA : ¬ frm s.heap.size b := Nat.not_le.mpr hbl
  have hcs0 : cells ≤ R.cells ∧ slots ≤ R.slots := ⟨by omega, by omega⟩
  unfold jp_L_law_384 at h
  refine lv_aload_n hx hb dL_law_384 rfl (lv_at hl 1 rfl) ?_
  refine lv_aload_n hx hb dL_law_385 rfl (lv_at hl 0 rfl) ?_
  refine lv_iload hx hb dL_law_386 (lv_at hl 4 rfl) ?_
  refine lv_iconst (v := (1 : Int32)) hx hb dL_law_388 (by decide) ?_
  refine lv_iadd hx hb dL_law_389 ?_
  obtain ⟨hg_47, h⟩ := of_guard h
  refine va_sld hx hb hX hbl hbA hS (gd_in hg_47) dL_law_390 ?_
  refine lv_aload_n hx hb dL_law_391 rfl (lv_at hl 0 rfl) ?_
  refine lv_iload hx hb dL_law_392 (lv_at hl 4 rfl) ?_
  refine lv_iconst (v := (2 : Int32)) hx hb dL_law_394 (by decide) ?_
  refine lv_iadd hx hb dL_law_395 ?_
  obtain ⟨hg_48, h⟩ := of_guard h
  refine va_sld hx hb hX hbl hbA hS (gd_in hg_48) dL_law_396 ?_
  refine lv_aload_n hx hb dL_law_397 rfl (lv_at hl 0 rfl) ?_
  refine lv_iload hx hb dL_law_398 (lv_at hl 4 rfl) ?_
  refine lv_iconst (v := (3 : Int32)) hx hb dL_law_400 (by decide) ?_
  refine lv_iadd hx hb dL_law_401 ?_
  obtain ⟨hg_49, h⟩ := of_guard h
  refine va_sld hx hb hX hbl hbA hS (gd_in hg_49) dL_law_402 ?_
  refine lv_aload_n hx hb dL_law_403 rfl (lv_at hl 0 rfl) ?_
  refine lv_iload hx hb dL_law_404 (lv_at hl 4 rfl) ?_
  refine lv_iconst (v := (4 : Int32)) hx hb dL_law_406 (by decide) ?_
  refine lv_iadd hx hb dL_law_407 ?_
  obtain ⟨hg_50, h⟩ := of_guard h
  refine va_sld hx hb hX hbl hbA hS (gd_in hg_50) dL_law_408 ?_
  refine lv_aload_n hx hb dL_law_409 rfl (lv_at hl 0 rfl) ?_
  refine lv_iload hx hb dL_law_410 (lv_at hl 4 rfl) ?_
  refine lv_iconst (v := (5 : Int32)) hx hb dL_law_412 (by decide) ?_
  refine lv_iadd hx hb dL_law_413 ?_
  obtain ⟨hg_51, h⟩ := of_guard h
  refine va_sld hx hb hX hbl hbA hS (gd_in hg_51) dL_law_414 ?_
  refine lv_i2l (v := ((xs (l4 + (5 : Int32)).toNatClampNeg).toInt64)) hx hb dL_law_415 rfl ?_
  refine lv_bipush (v := (32 : Int32)) hx hb dL_law_416 (by decide) ?_
  refine lv_lshl (v := (shlL ((xs (l4 + (5 : Int32)).toNatClampNeg).toInt64) (32 : Int32))) hx hb dL_law_418 rfl ?_
  refine lv_aload_n hx hb dL_law_419 rfl (lv_at hl 0 rfl) ?_
  refine lv_iload hx hb dL_law_420 (lv_at hl 4 rfl) ?_
  refine lv_bipush (v := (6 : Int32)) hx hb dL_law_422 (by decide) ?_
  refine lv_iadd hx hb dL_law_424 ?_
  obtain ⟨hg_52, h⟩ := of_guard h
  refine va_sld hx hb hX hbl hbA hS (gd_in hg_52) dL_law_425 ?_
  refine lv_i2l (v := ((xs (l4 + (6 : Int32)).toNatClampNeg).toInt64)) hx hb dL_law_426 rfl ?_
  refine lv_ldc2 (v := (4294967295 : Int64)) hx hb hown (hts (.constantLong RL 40 (4294967295)) (by decide +kernel)) dL_law_427 ?_
  refine lv_land hx hb dL_law_430 ?_
  refine lv_lor hx hb dL_law_431 ?_
  refine lv_aload_n hx hb dL_law_432 rfl (lv_at hl 0 rfl) ?_
  refine lv_iload hx hb dL_law_433 (lv_at hl 4 rfl) ?_
  refine lv_bipush (v := (7 : Int32)) hx hb dL_law_435 (by decide) ?_
  refine lv_iadd hx hb dL_law_437 ?_
  obtain ⟨hg_53, h⟩ := of_guard h
  refine va_sld hx hb hX hbl hbA hS (gd_in hg_53) dL_law_438 ?_
  refine lv_i2l (v := ((xs (l4 + (7 : Int32)).toNatClampNeg).toInt64)) hx hb dL_law_439 rfl ?_
  refine lv_bipush (v := (32 : Int32)) hx hb dL_law_440 (by decide) ?_
  refine lv_lshl (v := (shlL ((xs (l4 + (7 : Int32)).toNatClampNeg).toInt64) (32 : Int32))) hx hb dL_law_442 rfl ?_
  refine lv_aload_n hx hb dL_law_443 rfl (lv_at hl 0 rfl) ?_
  refine lv_iload hx hb dL_law_444 (lv_at hl 4 rfl) ?_
  refine lv_bipush (v := (8 : Int32)) hx hb dL_law_446 (by decide) ?_
  refine lv_iadd hx hb dL_law_448 ?_
  obtain ⟨hg_54, h⟩ := of_guard h
  refine va_sld hx hb hX hbl hbA hS (gd_in hg_54) dL_law_449 ?_
  refine lv_i2l (v := ((xs (l4 + (8 : Int32)).toNatClampNeg).toInt64)) hx hb dL_law_450 rfl ?_
  refine lv_ldc2 (v := (4294967295 : Int64)) hx hb hown (hts (.constantLong RL 40 (4294967295)) (by decide +kernel)) dL_law_451 ?_
  refine lv_land hx hb dL_law_454 ?_
  refine lv_lor hx hb dL_law_455 ?_
  obtain ⟨q_55, hq_55, h⟩ := of_bind h
  refine cx_i (rn_V (As := [.int (xs (l4 + (1 : Int32)).toNatClampNeg), .int (xs (l4 + (2 : Int32)).toNatClampNeg), .int (xs (l4 + (3 : Int32)).toNatClampNeg), .int (xs (l4 + (4 : Int32)).toNatClampNeg), .long ((shlL ((xs (l4 + (5 : Int32)).toNatClampNeg).toInt64) (32 : Int32)) ||| (((xs (l4 + (6 : Int32)).toNatClampNeg).toInt64) &&& (4294967295 : Int64))), .long ((shlL ((xs (l4 + (7 : Int32)).toNatClampNeg).toInt64) (32 : Int32)) ||| (((xs (l4 + (8 : Int32)).toNatClampNeg).toInt64) &&& (4294967295 : Int64)))]) (rest := []) X hK hR k1 rfl (by decide) hl.1 (c_X4_lay l cA D Λ hT σ a1 (xs (l4 + (1 : Int32)).toNatClampNeg) (xs (l4 + (2 : Int32)).toNatClampNeg) (xs (l4 + (3 : Int32)).toNatClampNeg) (xs (l4 + (4 : Int32)).toNatClampNeg) ((shlL ((xs (l4 + (5 : Int32)).toNatClampNeg).toInt64) (32 : Int32)) ||| (((xs (l4 + (6 : Int32)).toNatClampNeg).toInt64) &&& (4294967295 : Int64))) ((shlL ((xs (l4 + (7 : Int32)).toNatClampNeg).toInt64) (32 : Int32)) ||| (((xs (l4 + (8 : Int32)).toNatClampNeg).toInt64) &&& (4294967295 : Int64))) k1 hq_55) (cwV 6 hts gL_law_X4_lay rfl rfl rfl (by decide +kernel) ⟨Nat.le_trans (by decide) hM.1, Nat.le_trans (by decide) hM.2⟩) rfl rfl (Nat.le_of_ble_eq_true rfl) dL_law_456 (hf := hcs0)) hS hdm hXK (fun H locs hR hS hXK => ?_)
  refine lv_aload_n hx hb dL_law_459 rfl (lv_at hl 2 rfl) ?_
  refine lv_aload_n hx hb dL_law_460 rfl (lv_at hl 0 rfl) ?_
  refine lv_iload hx hb dL_law_461 (lv_at hl 4 rfl) ?_
  refine lv_iconst (v := (1 : Int32)) hx hb dL_law_463 (by decide) ?_
  refine lv_iadd hx hb dL_law_464 ?_
  obtain ⟨hg_56, h⟩ := of_guard h
  refine va_sld hx hb hX hbl hbA hS (gd_in hg_56) dL_law_465 ?_
  refine lv_aload_n hx hb dL_law_466 rfl (lv_at hl 0 rfl) ?_
  refine lv_iload hx hb dL_law_467 (lv_at hl 4 rfl) ?_
  refine lv_iconst (v := (2 : Int32)) hx hb dL_law_469 (by decide) ?_
  refine lv_iadd hx hb dL_law_470 ?_
  obtain ⟨hg_57, h⟩ := of_guard h
  refine va_sld hx hb hX hbl hbA hS (gd_in hg_57) dL_law_471 ?_
  refine lv_aload_n hx hb dL_law_472 rfl (lv_at hl 0 rfl) ?_
  refine lv_iload hx hb dL_law_473 (lv_at hl 4 rfl) ?_
  refine lv_iconst (v := (3 : Int32)) hx hb dL_law_475 (by decide) ?_
  refine lv_iadd hx hb dL_law_476 ?_
  obtain ⟨hg_58, h⟩ := of_guard h
  refine va_sld hx hb hX hbl hbA hS (gd_in hg_58) dL_law_477 ?_
  refine lv_aload_n hx hb dL_law_478 rfl (lv_at hl 0 rfl) ?_
  refine lv_iload hx hb dL_law_479 (lv_at hl 4 rfl) ?_
  refine lv_iconst (v := (4 : Int32)) hx hb dL_law_481 (by decide) ?_
  refine lv_iadd hx hb dL_law_482 ?_
  obtain ⟨hg_59, h⟩ := of_guard h
  refine va_sld hx hb hX hbl hbA hS (gd_in hg_59) dL_law_483 ?_
  refine lv_aload_n hx hb dL_law_484 rfl (lv_at hl 0 rfl) ?_
  refine lv_iload hx hb dL_law_485 (lv_at hl 4 rfl) ?_
  refine lv_iconst (v := (5 : Int32)) hx hb dL_law_487 (by decide) ?_
  refine lv_iadd hx hb dL_law_488 ?_
  obtain ⟨hg_60, h⟩ := of_guard h
  refine va_sld hx hb hX hbl hbA hS (gd_in hg_60) dL_law_489 ?_
  refine lv_i2l (v := ((xs (l4 + (5 : Int32)).toNatClampNeg).toInt64)) hx hb dL_law_490 rfl ?_
  refine lv_bipush (v := (32 : Int32)) hx hb dL_law_491 (by decide) ?_
  refine lv_lshl (v := (shlL ((xs (l4 + (5 : Int32)).toNatClampNeg).toInt64) (32 : Int32))) hx hb dL_law_493 rfl ?_
  refine lv_aload_n hx hb dL_law_494 rfl (lv_at hl 0 rfl) ?_
  refine lv_iload hx hb dL_law_495 (lv_at hl 4 rfl) ?_
  refine lv_bipush (v := (6 : Int32)) hx hb dL_law_497 (by decide) ?_
  refine lv_iadd hx hb dL_law_499 ?_
  obtain ⟨hg_61, h⟩ := of_guard h
  refine va_sld hx hb hX hbl hbA hS (gd_in hg_61) dL_law_500 ?_
  refine lv_i2l (v := ((xs (l4 + (6 : Int32)).toNatClampNeg).toInt64)) hx hb dL_law_501 rfl ?_
  refine lv_ldc2 (v := (4294967295 : Int64)) hx hb hown (hts (.constantLong RL 40 (4294967295)) (by decide +kernel)) dL_law_502 ?_
  refine lv_land hx hb dL_law_505 ?_
  refine lv_lor hx hb dL_law_506 ?_
  refine lv_aload_n hx hb dL_law_507 rfl (lv_at hl 0 rfl) ?_
  refine lv_iload hx hb dL_law_508 (lv_at hl 4 rfl) ?_
  refine lv_bipush (v := (7 : Int32)) hx hb dL_law_510 (by decide) ?_
  refine lv_iadd hx hb dL_law_512 ?_
  obtain ⟨hg_62, h⟩ := of_guard h
  refine va_sld hx hb hX hbl hbA hS (gd_in hg_62) dL_law_513 ?_
  refine lv_i2l (v := ((xs (l4 + (7 : Int32)).toNatClampNeg).toInt64)) hx hb dL_law_514 rfl ?_
  refine lv_bipush (v := (32 : Int32)) hx hb dL_law_515 (by decide) ?_
  refine lv_lshl (v := (shlL ((xs (l4 + (7 : Int32)).toNatClampNeg).toInt64) (32 : Int32))) hx hb dL_law_517 rfl ?_
  refine lv_aload_n hx hb dL_law_518 rfl (lv_at hl 0 rfl) ?_
  refine lv_iload hx hb dL_law_519 (lv_at hl 4 rfl) ?_
  refine lv_bipush (v := (8 : Int32)) hx hb dL_law_521 (by decide) ?_
  refine lv_iadd hx hb dL_law_523 ?_
  obtain ⟨hg_63, h⟩ := of_guard h
  refine va_sld hx hb hX hbl hbA hS (gd_in hg_63) dL_law_524 ?_
  refine lv_i2l (v := ((xs (l4 + (8 : Int32)).toNatClampNeg).toInt64)) hx hb dL_law_525 rfl ?_
  refine lv_ldc2 (v := (4294967295 : Int64)) hx hb hown (hts (.constantLong RL 40 (4294967295)) (by decide +kernel)) dL_law_526 ?_
  refine lv_land hx hb dL_law_529 ?_
  refine lv_lor hx hb dL_law_530 ?_
  obtain ⟨q_64, hq_64, h⟩ := of_bind h
  refine cx_i (rn_V (As := [.int (xs (l4 + (1 : Int32)).toNatClampNeg), .int (xs (l4 + (2 : Int32)).toNatClampNeg), .int (xs (l4 + (3 : Int32)).toNatClampNeg), .int (xs (l4 + (4 : Int32)).toNatClampNeg), .long ((shlL ((xs (l4 + (5 : Int32)).toNatClampNeg).toInt64) (32 : Int32)) ||| (((xs (l4 + (6 : Int32)).toNatClampNeg).toInt64) &&& (4294967295 : Int64))), .long ((shlL ((xs (l4 + (7 : Int32)).toNatClampNeg).toInt64) (32 : Int32)) ||| (((xs (l4 + (8 : Int32)).toNatClampNeg).toInt64) &&& (4294967295 : Int64)))]) (rest := [.int q_55.1]) X hK hR k2 rfl (by decide) hl.1 (c_X5_lay l cA D Λ hT q_55.2 a2 (xs (l4 + (1 : Int32)).toNatClampNeg) (xs (l4 + (2 : Int32)).toNatClampNeg) (xs (l4 + (3 : Int32)).toNatClampNeg) (xs (l4 + (4 : Int32)).toNatClampNeg) ((shlL ((xs (l4 + (5 : Int32)).toNatClampNeg).toInt64) (32 : Int32)) ||| (((xs (l4 + (6 : Int32)).toNatClampNeg).toInt64) &&& (4294967295 : Int64))) ((shlL ((xs (l4 + (7 : Int32)).toNatClampNeg).toInt64) (32 : Int32)) ||| (((xs (l4 + (8 : Int32)).toNatClampNeg).toInt64) &&& (4294967295 : Int64))) k2 hq_64) (cwV 6 hts gL_law_X5_lay rfl rfl rfl (by decide +kernel) ⟨Nat.le_trans (by decide) hM.1, Nat.le_trans (by decide) hM.2⟩) rfl rfl (Nat.le_of_ble_eq_true rfl) dL_law_531 (hf := hcs0)) hS hdm hXK (fun H locs hR hS hXK => ?_)
  refine lv_icmp_eq (tgt := 1457) hx hb dL_law_534 (by decide) (fun hc => ?_) (fun hc => ?_)
  · have h := of_pos hc h
    obtain ⟨v_65, e_v_65⟩ : ∃ y : Int32, y = (l4 + (9 : Int32)) := ⟨_, rfl⟩
    have h := of_nm e_v_65 h
    refine lv_iinc (v := v_65) (lv' := [(4, .int v_65), (0, .ref b), (1, .ref a1), (2, .ref a2), (3, .ref a3)]) hx hb dL_law_1457 hl (k := 4) rfl (by rw [e_v_65]; rfl) (by decide) rfl (fun ls hl => ?_)
    refine lv_goto (tgt := 23) hx hb dL_law_1460 (by decide) ?_
    refine W.widen (k := cells + 1) (n := slots + 6) (Nat.le_succ _) (Nat.le_add_right _ _) ?_
    exact kb (v_65, q_64.2) (Option.some.inj h).symm H locs ls hR hS hXK (lv_sub hl [1, 2, 3, 4, 0] rfl)
  · have h := of_neg hc h
    cases h

set_option maxHeartbeats 4000000 in
set_option maxRecDepth 100000 in
theorem w_jp_L_law_539 (X : Cx cL_law (some .boolean) 8 RL wsL_law p s m #[Value.ref b] meth c) (hK : Kn cA D s) (hT : TL Λ) (hM : 8 ≤ R.frames ∧ 175 ≤ R.locals) (hlt : l.stackTraces = false) (hdm : ∀ q, dm Λ q → s.heap.size ≤ q) (hX : va_X b L xs s s.heap) (hbl : b < s.heap.size) (hcs : cells + 1 ≤ R.cells ∧ slots + 6 ≤ R.slots) (a1 a2 a3 : Nat) (k1 : isK Λ a1 5) (k2 : isK Λ a2 6) (k3 : isK Λ a3 8) (l4 : Int32) (σ : Sto) {r : (Int32 × Sto) ⊕ Sto} (h : jp_L_law_539 Λ xs L a1 a2 a3 l4 σ = some r) (kb : ∀ z : Int32 × Sto, r = .inl z → ∀ (H : Heap) (locs : List Loc) (ls : Array Slot), Rep cA D Λ z.2 H → va_S (frm s.heap.size) s.heap H locs → XK Λ sa s H → lv_has ls 8 [(0, .ref b), (1, .ref a1), (2, .ref a2), (3, .ref a3), (4, .int z.1)] → W p l e R s m #[Value.ref b] below meth c H locs (cells + 1) (slots + 6) Q (F0 m 23 ls [])) (kx : ∀ z : Sto, r = .inr z → ∀ (H : Heap) (locs : List Loc) (ls : Array Slot), Rep cA D Λ z H → va_S (frm s.heap.size) s.heap H locs → XK Λ sa s H → lv_has ls 8 [] → W p l e R s m #[Value.ref b] below meth c H locs (cells + 1) (slots + 6) Q (F0 m 1463 ls [])) (H : Heap) (locs : List Loc) (ls : Array Slot) (hR : Rep cA D Λ σ H) (hS : va_S (frm s.heap.size) s.heap H locs) (hXK : XK Λ sa s H) (hl : lv_has ls 8 [(0, .ref b), (1, .ref a1), (2, .ref a2), (3, .ref a3), (4, .int l4)]) : W p l e R s m #[Value.ref b] below meth c H locs cells slots Q (F0 m 539 ls []) := by
  have hx := X.1
  have hb := X.2.1
  have hown := X.2.2.2.2.1
  have hts := X.2.2.2.2.2.1
  have hbA : ¬ frm s.heap.size b := Nat.not_le.mpr hbl
  have hcs0 : cells ≤ R.cells ∧ slots ≤ R.slots := ⟨by omega, by omega⟩
  unfold jp_L_law_539 at h
  refine lv_aload_n hx hb dL_law_539 rfl (lv_at hl 1 rfl) ?_
  refine lv_aload_n hx hb dL_law_540 rfl (lv_at hl 0 rfl) ?_
  refine lv_iload hx hb dL_law_541 (lv_at hl 4 rfl) ?_
  refine lv_iconst (v := (1 : Int32)) hx hb dL_law_543 (by decide) ?_
  refine lv_iadd hx hb dL_law_544 ?_
  obtain ⟨hg_66, h⟩ := of_guard h
  refine va_sld hx hb hX hbl hbA hS (gd_in hg_66) dL_law_545 ?_
  refine lv_aload_n hx hb dL_law_546 rfl (lv_at hl 0 rfl) ?_
  refine lv_iload hx hb dL_law_547 (lv_at hl 4 rfl) ?_
  refine lv_iconst (v := (2 : Int32)) hx hb dL_law_549 (by decide) ?_
  refine lv_iadd hx hb dL_law_550 ?_
  obtain ⟨hg_67, h⟩ := of_guard h
  refine va_sld hx hb hX hbl hbA hS (gd_in hg_67) dL_law_551 ?_
  refine lv_aload_n hx hb dL_law_552 rfl (lv_at hl 0 rfl) ?_
  refine lv_iload hx hb dL_law_553 (lv_at hl 4 rfl) ?_
  refine lv_iconst (v := (3 : Int32)) hx hb dL_law_555 (by decide) ?_
  refine lv_iadd hx hb dL_law_556 ?_
  obtain ⟨hg_68, h⟩ := of_guard h
  refine va_sld hx hb hX hbl hbA hS (gd_in hg_68) dL_law_557 ?_
  obtain ⟨q_69, hq_69, h⟩ := of_bind h
  refine cx_i (rn_V (As := [.int (xs (l4 + (1 : Int32)).toNatClampNeg), .int (xs (l4 + (2 : Int32)).toNatClampNeg), .int (xs (l4 + (3 : Int32)).toNatClampNeg)]) (rest := []) X hK hR k1 rfl (by decide) hl.1 (c_X4_at l cA D Λ hT σ a1 (xs (l4 + (1 : Int32)).toNatClampNeg) (xs (l4 + (2 : Int32)).toNatClampNeg) (xs (l4 + (3 : Int32)).toNatClampNeg) k1 hq_69) (cwV 3 hts gL_law_X4_at rfl rfl rfl (by decide +kernel) ⟨Nat.le_trans (by decide) hM.1, Nat.le_trans (by decide) hM.2⟩) rfl rfl (Nat.le_of_ble_eq_true rfl) dL_law_558 (hf := hcs0)) hS hdm hXK (fun H locs hR hS hXK => ?_)
  refine lv_aload_n hx hb dL_law_561 rfl (lv_at hl 2 rfl) ?_
  refine lv_aload_n hx hb dL_law_562 rfl (lv_at hl 0 rfl) ?_
  refine lv_iload hx hb dL_law_563 (lv_at hl 4 rfl) ?_
  refine lv_iconst (v := (1 : Int32)) hx hb dL_law_565 (by decide) ?_
  refine lv_iadd hx hb dL_law_566 ?_
  obtain ⟨hg_70, h⟩ := of_guard h
  refine va_sld hx hb hX hbl hbA hS (gd_in hg_70) dL_law_567 ?_
  refine lv_aload_n hx hb dL_law_568 rfl (lv_at hl 0 rfl) ?_
  refine lv_iload hx hb dL_law_569 (lv_at hl 4 rfl) ?_
  refine lv_iconst (v := (2 : Int32)) hx hb dL_law_571 (by decide) ?_
  refine lv_iadd hx hb dL_law_572 ?_
  obtain ⟨hg_71, h⟩ := of_guard h
  refine va_sld hx hb hX hbl hbA hS (gd_in hg_71) dL_law_573 ?_
  refine lv_aload_n hx hb dL_law_574 rfl (lv_at hl 0 rfl) ?_
  refine lv_iload hx hb dL_law_575 (lv_at hl 4 rfl) ?_
  refine lv_iconst (v := (3 : Int32)) hx hb dL_law_577 (by decide) ?_
  refine lv_iadd hx hb dL_law_578 ?_
  obtain ⟨hg_72, h⟩ := of_guard h
  refine va_sld hx hb hX hbl hbA hS (gd_in hg_72) dL_law_579 ?_
  obtain ⟨q_73, hq_73, h⟩ := of_bind h
  refine cx_i (rn_V (As := [.int (xs (l4 + (1 : Int32)).toNatClampNeg), .int (xs (l4 + (2 : Int32)).toNatClampNeg), .int (xs (l4 + (3 : Int32)).toNatClampNeg)]) (rest := [.int q_69]) X hK hR k2 rfl (by decide) hl.1 (c_X5_at l cA D Λ hT σ a2 (xs (l4 + (1 : Int32)).toNatClampNeg) (xs (l4 + (2 : Int32)).toNatClampNeg) (xs (l4 + (3 : Int32)).toNatClampNeg) k2 hq_73) (cwV 3 hts gL_law_X5_at rfl rfl rfl (by decide +kernel) ⟨Nat.le_trans (by decide) hM.1, Nat.le_trans (by decide) hM.2⟩) rfl rfl (Nat.le_of_ble_eq_true rfl) dL_law_580 (hf := hcs0)) hS hdm hXK (fun H locs hR hS hXK => ?_)
  refine lv_icmp_eq (tgt := 1457) hx hb dL_law_583 (by decide) (fun hc => ?_) (fun hc => ?_)
  · have h := of_pos hc h
    obtain ⟨v_74, e_v_74⟩ : ∃ y : Int32, y = (l4 + (9 : Int32)) := ⟨_, rfl⟩
    have h := of_nm e_v_74 h
    refine lv_iinc (v := v_74) (lv' := [(4, .int v_74), (0, .ref b), (1, .ref a1), (2, .ref a2), (3, .ref a3)]) hx hb dL_law_1457 hl (k := 4) rfl (by rw [e_v_74]; rfl) (by decide) rfl (fun ls hl => ?_)
    refine lv_goto (tgt := 23) hx hb dL_law_1460 (by decide) ?_
    refine W.widen (k := cells + 1) (n := slots + 6) (Nat.le_succ _) (Nat.le_add_right _ _) ?_
    exact kb (v_74, q_73.2) (Option.some.inj h).symm H locs ls hR hS hXK (lv_sub hl [1, 2, 3, 4, 0] rfl)
  · have h := of_neg hc h
    cases h

set_option maxHeartbeats 4000000 in
set_option maxRecDepth 100000 in
theorem w_jp_L_law_588 (X : Cx cL_law (some .boolean) 8 RL wsL_law p s m #[Value.ref b] meth c) (hK : Kn cA D s) (hT : TL Λ) (hM : 8 ≤ R.frames ∧ 175 ≤ R.locals) (hlt : l.stackTraces = false) (hdm : ∀ q, dm Λ q → s.heap.size ≤ q) (hX : va_X b L xs s s.heap) (hbl : b < s.heap.size) (hcs : cells + 1 ≤ R.cells ∧ slots + 6 ≤ R.slots) (a1 a2 a3 : Nat) (k1 : isK Λ a1 5) (k2 : isK Λ a2 6) (k3 : isK Λ a3 8) (l4 : Int32) (σ : Sto) {r : (Int32 × Sto) ⊕ Sto} (h : jp_L_law_588 Λ xs L a1 a2 a3 l4 σ = some r) (kb : ∀ z : Int32 × Sto, r = .inl z → ∀ (H : Heap) (locs : List Loc) (ls : Array Slot), Rep cA D Λ z.2 H → va_S (frm s.heap.size) s.heap H locs → XK Λ sa s H → lv_has ls 8 [(0, .ref b), (1, .ref a1), (2, .ref a2), (3, .ref a3), (4, .int z.1)] → W p l e R s m #[Value.ref b] below meth c H locs (cells + 1) (slots + 6) Q (F0 m 23 ls [])) (kx : ∀ z : Sto, r = .inr z → ∀ (H : Heap) (locs : List Loc) (ls : Array Slot), Rep cA D Λ z H → va_S (frm s.heap.size) s.heap H locs → XK Λ sa s H → lv_has ls 8 [] → W p l e R s m #[Value.ref b] below meth c H locs (cells + 1) (slots + 6) Q (F0 m 1463 ls [])) (H : Heap) (locs : List Loc) (ls : Array Slot) (hR : Rep cA D Λ σ H) (hS : va_S (frm s.heap.size) s.heap H locs) (hXK : XK Λ sa s H) (hl : lv_has ls 8 [(0, .ref b), (1, .ref a1), (2, .ref a2), (3, .ref a3), (4, .int l4)]) : W p l e R s m #[Value.ref b] below meth c H locs cells slots Q (F0 m 588 ls []) := by
  have hx := X.1
  have hb := X.2.1
  have hown := X.2.2.2.2.1
  have hts := X.2.2.2.2.2.1
  have hbA : ¬ frm s.heap.size b := Nat.not_le.mpr hbl
  have hcs0 : cells ≤ R.cells ∧ slots ≤ R.slots := ⟨by omega, by omega⟩
  unfold jp_L_law_588 at h
  refine lv_aload_n hx hb dL_law_588 rfl (lv_at hl 1 rfl) ?_
  refine lv_aload_n hx hb dL_law_589 rfl (lv_at hl 0 rfl) ?_
  refine lv_iload hx hb dL_law_590 (lv_at hl 4 rfl) ?_
  refine lv_iconst (v := (1 : Int32)) hx hb dL_law_592 (by decide) ?_
  refine lv_iadd hx hb dL_law_593 ?_
  obtain ⟨hg_75, h⟩ := of_guard h
  refine va_sld hx hb hX hbl hbA hS (gd_in hg_75) dL_law_594 ?_
  refine lv_aload_n hx hb dL_law_595 rfl (lv_at hl 0 rfl) ?_
  refine lv_iload hx hb dL_law_596 (lv_at hl 4 rfl) ?_
  refine lv_iconst (v := (2 : Int32)) hx hb dL_law_598 (by decide) ?_
  refine lv_iadd hx hb dL_law_599 ?_
  obtain ⟨hg_76, h⟩ := of_guard h
  refine va_sld hx hb hX hbl hbA hS (gd_in hg_76) dL_law_600 ?_
  refine lv_aload_n hx hb dL_law_601 rfl (lv_at hl 3 rfl) ?_
  obtain ⟨q_77, hq_77, h⟩ := of_bind h
  refine cx_h (vx_runSW (As := [.ref a1, .int (xs (l4 + (1 : Int32)).toNatClampNeg), .int (xs (l4 + (2 : Int32)).toNatClampNeg), .ref a3]) (rest := []) (Ts := wsL_law) ⟨X.1, X.2.1, X.2.2.2.1, X.2.2.2.2.1, X.2.2.2.2.2.1⟩ (c_L_row l hlt cA D Λ hT sa σ a1 (xs (l4 + (1 : Int32)).toNatClampNeg) (xs (l4 + (2 : Int32)).toNatClampNeg) a3 k1 k3 hq_77) (vx_cwSW 4 hts gL_law_L_row rfl rfl rfl (by decide +kernel) ⟨Nat.le_trans (by decide) hM.1, Nat.le_trans (by decide) hM.2⟩) ⟨PX.blind, fun U hU hW1 => ⟨rfl, ⟨by rw [hU]; exact hR, hK.warm hW1⟩, by rw [hU]; exact hXK.warm hW1⟩⟩ rfl rfl hl.1 rfl (lv_room (Nat.le_of_ble_eq_true rfl)) dL_law_602 hcs) hS hdm hXK (fun H locs hR hS hXK => ?_)
  refine lv_istore (lv' := [(5, .int q_77.1), (0, .ref b), (1, .ref a1), (2, .ref a2), (3, .ref a3), (4, .int l4)]) hx hb dL_law_605 hl (by decide) rfl (fun ls hl => ?_)
  refine lv_aload_n hx hb dL_law_607 rfl (lv_at hl 3 rfl) ?_
  refine lv_aload_n hx hb dL_law_608 rfl (lv_at hl 1 rfl) ?_
  refine lv_iload hx hb dL_law_609 (lv_at hl 5 rfl) ?_
  refine lv_iconst (v := (1 : Int32)) hx hb dL_law_611 (by decide) ?_
  refine lv_iadd hx hb dL_law_612 ?_
  obtain ⟨hg_78, h⟩ := of_guard h
  refine va_sld hx hb hX hbl hbA hS (gd_in hg_78) dL_law_613 ?_
  refine lv_aload_n hx hb dL_law_614 rfl (lv_at hl 1 rfl) ?_
  refine lv_iload hx hb dL_law_615 (lv_at hl 5 rfl) ?_
  refine lv_iconst (v := (2 : Int32)) hx hb dL_law_617 (by decide) ?_
  refine lv_iadd hx hb dL_law_618 ?_
  obtain ⟨hg_79, h⟩ := of_guard h
  refine va_sld hx hb hX hbl hbA hS (gd_in hg_79) dL_law_619 ?_
  obtain ⟨q_80, hq_80, h⟩ := of_bind h
  refine cx_l (rn_V (As := [.int (xs (l4 + (1 : Int32)).toNatClampNeg), .int (xs (l4 + (2 : Int32)).toNatClampNeg)]) (rest := []) X hK hR k2 rfl (by decide) hl.1 (c_X5_row l cA D Λ hT q_77.2 a2 (xs (l4 + (1 : Int32)).toNatClampNeg) (xs (l4 + (2 : Int32)).toNatClampNeg) k2 hq_80) (cwV 2 hts gL_law_X5_row rfl rfl rfl (by decide +kernel) ⟨Nat.le_trans (by decide) hM.1, Nat.le_trans (by decide) hM.2⟩) rfl rfl (Nat.le_of_ble_eq_true rfl) dL_law_620 (hf := ⟨by omega, by omega⟩)) hS hdm hXK (fun H locs hR hS hXK => ?_)
  refine lv_lstore (lv' := [(6, .long q_80.1), (5, .int q_77.1), (0, .ref b), (1, .ref a1), (2, .ref a2), (3, .ref a3), (4, .int l4)]) hx hb dL_law_623 hl (by decide) rfl (fun ls hl => ?_)
  refine lv_aload_n hx hb dL_law_625 rfl (lv_at hl 4 rfl) ?_
  refine cx_i (rn_V (As := []) (rest := []) X hK hR k2 rfl (by decide) hl.1 (c_X5_thrown l cA D Λ hT q_80.2 a2 k2) (cwV 0 hts gL_law_X5_thrown rfl rfl rfl (by decide +kernel) ⟨Nat.le_trans (by decide) hM.1, Nat.le_trans (by decide) hM.2⟩) rfl rfl (Nat.le_of_ble_eq_true rfl) dL_law_626 (hf := ⟨by omega, by omega⟩)) hS hdm hXK (fun H locs hR hS hXK => ?_)
  refine lv_topi (fun r_81 e_81 => ?_)
  have h := of_nm e_81 h
  refine lv_iload hx hb dL_law_629 (lv_at hl 1 rfl) ?_
  refine lv_icmp_eq (tgt := 636) hx hb dL_law_631 (by decide) (fun hc => ?_) (fun hc => ?_)
  · have h := of_pos hc h
    refine lv_iload hx hb dL_law_636 (lv_at hl 1 rfl) ?_
    refine lv_if_ne (tgt := 652) hx hb dL_law_638 (by decide) (fun hc => ?_) (fun hc => ?_)
    · have h := of_neg hc h
      refine lv_goto (tgt := 1457) hx hb dL_law_652 (by decide) ?_
      obtain ⟨v_82, e_v_82⟩ : ∃ y : Int32, y = (l4 + (9 : Int32)) := ⟨_, rfl⟩
      have h := of_nm e_v_82 h
      refine lv_iinc (v := v_82) (lv' := [(4, .int v_82), (6, .long q_80.1), (5, .int q_77.1), (0, .ref b), (1, .ref a1), (2, .ref a2), (3, .ref a3)]) hx hb dL_law_1457 hl (k := 6) rfl (by rw [e_v_82]; rfl) (by decide) rfl (fun ls hl => ?_)
      refine lv_goto (tgt := 23) hx hb dL_law_1460 (by decide) ?_
      exact kb (v_82, q_80.2) (Option.some.inj h).symm H locs ls hR hS hXK (lv_sub hl [3, 4, 5, 6, 0] rfl)
    · have h := of_pos hc h
      refine lv_aload_n hx hb dL_law_641 rfl (lv_at hl 5 rfl) ?_
      refine lv_iconst (v := (0 : Int32)) hx hb dL_law_642 (by decide) ?_
      obtain ⟨hg_83, h⟩ := of_guard h
      refine rw_lald X hK hR k3 hg_83 dL_law_643 ?_
      refine lv_lload hx hb dL_law_644 (lv_at hl 0 rfl) ?_
      refine W.lcmp hx hb dL_law_646 ?_
      refine lv_if_eq (tgt := 652) hx hb dL_law_647 (by decide) (fun hc => ?_) (fun hc => ?_)
      · have h := of_pos hc h
        refine lv_goto (tgt := 1457) hx hb dL_law_652 (by decide) ?_
        obtain ⟨v_84, e_v_84⟩ : ∃ y : Int32, y = (l4 + (9 : Int32)) := ⟨_, rfl⟩
        have h := of_nm e_v_84 h
        refine lv_iinc (v := v_84) (lv' := [(4, .int v_84), (6, .long q_80.1), (5, .int q_77.1), (0, .ref b), (1, .ref a1), (2, .ref a2), (3, .ref a3)]) hx hb dL_law_1457 hl (k := 6) rfl (by rw [e_v_84]; rfl) (by decide) rfl (fun ls hl => ?_)
        refine lv_goto (tgt := 23) hx hb dL_law_1460 (by decide) ?_
        exact kb (v_84, q_80.2) (Option.some.inj h).symm H locs ls hR hS hXK (lv_sub hl [3, 4, 5, 6, 0] rfl)
      · have h := of_neg hc h
        cases h
  · have h := of_neg hc h
    cases h

set_option maxHeartbeats 4000000 in
set_option maxRecDepth 100000 in
theorem w_jp_L_law_655 (X : Cx cL_law (some .boolean) 8 RL wsL_law p s m #[Value.ref b] meth c) (hK : Kn cA D s) (hT : TL Λ) (hM : 8 ≤ R.frames ∧ 175 ≤ R.locals) (hlt : l.stackTraces = false) (hdm : ∀ q, dm Λ q → s.heap.size ≤ q) (hX : va_X b L xs s s.heap) (hbl : b < s.heap.size) (hcs : cells + 1 ≤ R.cells ∧ slots + 6 ≤ R.slots) (a1 a2 a3 : Nat) (k1 : isK Λ a1 5) (k2 : isK Λ a2 6) (k3 : isK Λ a3 8) (l4 : Int32) (σ : Sto) {r : (Int32 × Sto) ⊕ Sto} (h : jp_L_law_655 Λ xs L a1 a2 a3 l4 σ = some r) (kb : ∀ z : Int32 × Sto, r = .inl z → ∀ (H : Heap) (locs : List Loc) (ls : Array Slot), Rep cA D Λ z.2 H → va_S (frm s.heap.size) s.heap H locs → XK Λ sa s H → lv_has ls 8 [(0, .ref b), (1, .ref a1), (2, .ref a2), (3, .ref a3), (4, .int z.1)] → W p l e R s m #[Value.ref b] below meth c H locs (cells + 1) (slots + 6) Q (F0 m 23 ls [])) (kx : ∀ z : Sto, r = .inr z → ∀ (H : Heap) (locs : List Loc) (ls : Array Slot), Rep cA D Λ z H → va_S (frm s.heap.size) s.heap H locs → XK Λ sa s H → lv_has ls 8 [] → W p l e R s m #[Value.ref b] below meth c H locs (cells + 1) (slots + 6) Q (F0 m 1463 ls [])) (H : Heap) (locs : List Loc) (ls : Array Slot) (hR : Rep cA D Λ σ H) (hS : va_S (frm s.heap.size) s.heap H locs) (hXK : XK Λ sa s H) (hl : lv_has ls 8 [(0, .ref b), (1, .ref a1), (2, .ref a2), (3, .ref a3), (4, .int l4)]) : W p l e R s m #[Value.ref b] below meth c H locs cells slots Q (F0 m 655 ls []) := by
  have hx := X.1
  have hb := X.2.1
  have hown := X.2.2.2.2.1
  have hts := X.2.2.2.2.2.1
  have hbA : ¬ frm s.heap.size b := Nat.not_le.mpr hbl
  have hcs0 : cells ≤ R.cells ∧ slots ≤ R.slots := ⟨by omega, by omega⟩
  unfold jp_L_law_655 at h
  refine lv_aload_n hx hb dL_law_655 rfl (lv_at hl 1 rfl) ?_
  refine lv_aload_n hx hb dL_law_656 rfl (lv_at hl 0 rfl) ?_
  refine lv_iload hx hb dL_law_657 (lv_at hl 4 rfl) ?_
  refine lv_iconst (v := (1 : Int32)) hx hb dL_law_659 (by decide) ?_
  refine lv_iadd hx hb dL_law_660 ?_
  obtain ⟨hg_85, h⟩ := of_guard h
  refine va_sld hx hb hX hbl hbA hS (gd_in hg_85) dL_law_661 ?_
  refine lv_aload_n hx hb dL_law_662 rfl (lv_at hl 0 rfl) ?_
  refine lv_iload hx hb dL_law_663 (lv_at hl 4 rfl) ?_
  refine lv_iconst (v := (2 : Int32)) hx hb dL_law_665 (by decide) ?_
  refine lv_iadd hx hb dL_law_666 ?_
  obtain ⟨hg_86, h⟩ := of_guard h
  refine va_sld hx hb hX hbl hbA hS (gd_in hg_86) dL_law_667 ?_
  obtain ⟨q_87, hq_87, h⟩ := of_bind h
  refine cx_i (rn_V (As := [.int (xs (l4 + (1 : Int32)).toNatClampNeg), .int (xs (l4 + (2 : Int32)).toNatClampNeg)]) (rest := []) X hK hR k1 rfl (by decide) hl.1 (c_X4_of l cA D Λ hT σ a1 (xs (l4 + (1 : Int32)).toNatClampNeg) (xs (l4 + (2 : Int32)).toNatClampNeg) k1 hq_87) (cwV 2 hts gL_law_X4_of rfl rfl rfl (by decide +kernel) ⟨Nat.le_trans (by decide) hM.1, Nat.le_trans (by decide) hM.2⟩) rfl rfl (Nat.le_of_ble_eq_true rfl) dL_law_668 (hf := hcs0)) hS hdm hXK (fun H locs hR hS hXK => ?_)
  refine lv_aload_n hx hb dL_law_671 rfl (lv_at hl 2 rfl) ?_
  refine lv_aload_n hx hb dL_law_672 rfl (lv_at hl 0 rfl) ?_
  refine lv_iload hx hb dL_law_673 (lv_at hl 4 rfl) ?_
  refine lv_iconst (v := (1 : Int32)) hx hb dL_law_675 (by decide) ?_
  refine lv_iadd hx hb dL_law_676 ?_
  obtain ⟨hg_88, h⟩ := of_guard h
  refine va_sld hx hb hX hbl hbA hS (gd_in hg_88) dL_law_677 ?_
  refine lv_aload_n hx hb dL_law_678 rfl (lv_at hl 0 rfl) ?_
  refine lv_iload hx hb dL_law_679 (lv_at hl 4 rfl) ?_
  refine lv_iconst (v := (2 : Int32)) hx hb dL_law_681 (by decide) ?_
  refine lv_iadd hx hb dL_law_682 ?_
  obtain ⟨hg_89, h⟩ := of_guard h
  refine va_sld hx hb hX hbl hbA hS (gd_in hg_89) dL_law_683 ?_
  obtain ⟨q_90, hq_90, h⟩ := of_bind h
  refine cx_i (rn_V (As := [.int (xs (l4 + (1 : Int32)).toNatClampNeg), .int (xs (l4 + (2 : Int32)).toNatClampNeg)]) (rest := [.int q_87.1]) X hK hR k2 rfl (by decide) hl.1 (c_X5_of l cA D Λ hT q_87.2 a2 (xs (l4 + (1 : Int32)).toNatClampNeg) (xs (l4 + (2 : Int32)).toNatClampNeg) k2 hq_90) (cwV 2 hts gL_law_X5_of rfl rfl rfl (by decide +kernel) ⟨Nat.le_trans (by decide) hM.1, Nat.le_trans (by decide) hM.2⟩) rfl rfl (Nat.le_of_ble_eq_true rfl) dL_law_684 (hf := hcs0)) hS hdm hXK (fun H locs hR hS hXK => ?_)
  refine lv_icmp_eq (tgt := 1457) hx hb dL_law_687 (by decide) (fun hc => ?_) (fun hc => ?_)
  · have h := of_pos hc h
    obtain ⟨v_91, e_v_91⟩ : ∃ y : Int32, y = (l4 + (9 : Int32)) := ⟨_, rfl⟩
    have h := of_nm e_v_91 h
    refine lv_iinc (v := v_91) (lv' := [(4, .int v_91), (0, .ref b), (1, .ref a1), (2, .ref a2), (3, .ref a3)]) hx hb dL_law_1457 hl (k := 4) rfl (by rw [e_v_91]; rfl) (by decide) rfl (fun ls hl => ?_)
    refine lv_goto (tgt := 23) hx hb dL_law_1460 (by decide) ?_
    refine W.widen (k := cells + 1) (n := slots + 6) (Nat.le_succ _) (Nat.le_add_right _ _) ?_
    exact kb (v_91, q_90.2) (Option.some.inj h).symm H locs ls hR hS hXK (lv_sub hl [1, 2, 3, 4, 0] rfl)
  · have h := of_neg hc h
    cases h

set_option maxHeartbeats 4000000 in
set_option maxRecDepth 100000 in
theorem w_jp_L_law_692 (X : Cx cL_law (some .boolean) 8 RL wsL_law p s m #[Value.ref b] meth c) (hK : Kn cA D s) (hT : TL Λ) (hM : 8 ≤ R.frames ∧ 175 ≤ R.locals) (hlt : l.stackTraces = false) (hdm : ∀ q, dm Λ q → s.heap.size ≤ q) (hX : va_X b L xs s s.heap) (hbl : b < s.heap.size) (hcs : cells + 1 ≤ R.cells ∧ slots + 6 ≤ R.slots) (a1 a2 a3 : Nat) (k1 : isK Λ a1 5) (k2 : isK Λ a2 6) (k3 : isK Λ a3 8) (l4 : Int32) (σ : Sto) {r : (Int32 × Sto) ⊕ Sto} (h : jp_L_law_692 Λ xs L a1 a2 a3 l4 σ = some r) (kb : ∀ z : Int32 × Sto, r = .inl z → ∀ (H : Heap) (locs : List Loc) (ls : Array Slot), Rep cA D Λ z.2 H → va_S (frm s.heap.size) s.heap H locs → XK Λ sa s H → lv_has ls 8 [(0, .ref b), (1, .ref a1), (2, .ref a2), (3, .ref a3), (4, .int z.1)] → W p l e R s m #[Value.ref b] below meth c H locs (cells + 1) (slots + 6) Q (F0 m 23 ls [])) (kx : ∀ z : Sto, r = .inr z → ∀ (H : Heap) (locs : List Loc) (ls : Array Slot), Rep cA D Λ z H → va_S (frm s.heap.size) s.heap H locs → XK Λ sa s H → lv_has ls 8 [] → W p l e R s m #[Value.ref b] below meth c H locs (cells + 1) (slots + 6) Q (F0 m 1463 ls [])) (H : Heap) (locs : List Loc) (ls : Array Slot) (hR : Rep cA D Λ σ H) (hS : va_S (frm s.heap.size) s.heap H locs) (hXK : XK Λ sa s H) (hl : lv_has ls 8 [(0, .ref b), (1, .ref a1), (2, .ref a2), (3, .ref a3), (4, .int l4)]) : W p l e R s m #[Value.ref b] below meth c H locs cells slots Q (F0 m 692 ls []) := by
  have hx := X.1
  have hb := X.2.1
  have hown := X.2.2.2.2.1
  have hts := X.2.2.2.2.2.1
  have hbA : ¬ frm s.heap.size b := Nat.not_le.mpr hbl
  have hcs0 : cells ≤ R.cells ∧ slots ≤ R.slots := ⟨by omega, by omega⟩
  unfold jp_L_law_692 at h
  refine lv_aload_n hx hb dL_law_692 rfl (lv_at hl 1 rfl) ?_
  refine lv_aload_n hx hb dL_law_693 rfl (lv_at hl 0 rfl) ?_
  refine lv_iload hx hb dL_law_694 (lv_at hl 4 rfl) ?_
  refine lv_iconst (v := (1 : Int32)) hx hb dL_law_696 (by decide) ?_
  refine lv_iadd hx hb dL_law_697 ?_
  obtain ⟨hg_92, h⟩ := of_guard h
  refine va_sld hx hb hX hbl hbA hS (gd_in hg_92) dL_law_698 ?_
  obtain ⟨q_93, hq_93, h⟩ := of_bind h
  refine cx_i (rn_V (As := [.int (xs (l4 + (1 : Int32)).toNatClampNeg)]) (rest := []) X hK hR k1 rfl (by decide) hl.1 (c_X4_count l cA D Λ hT σ a1 (xs (l4 + (1 : Int32)).toNatClampNeg) k1 hq_93) (cwV 1 hts gL_law_X4_count rfl rfl rfl (by decide +kernel) ⟨Nat.le_trans (by decide) hM.1, Nat.le_trans (by decide) hM.2⟩) rfl rfl (Nat.le_of_ble_eq_true rfl) dL_law_699 (hf := hcs0)) hS hdm hXK (fun H locs hR hS hXK => ?_)
  refine lv_aload_n hx hb dL_law_702 rfl (lv_at hl 2 rfl) ?_
  refine lv_aload_n hx hb dL_law_703 rfl (lv_at hl 0 rfl) ?_
  refine lv_iload hx hb dL_law_704 (lv_at hl 4 rfl) ?_
  refine lv_iconst (v := (1 : Int32)) hx hb dL_law_706 (by decide) ?_
  refine lv_iadd hx hb dL_law_707 ?_
  obtain ⟨hg_94, h⟩ := of_guard h
  refine va_sld hx hb hX hbl hbA hS (gd_in hg_94) dL_law_708 ?_
  obtain ⟨q_95, hq_95, h⟩ := of_bind h
  refine cx_i (rn_V (As := [.int (xs (l4 + (1 : Int32)).toNatClampNeg)]) (rest := [.int q_93]) X hK hR k2 rfl (by decide) hl.1 (c_X5_count l cA D Λ hT σ a2 (xs (l4 + (1 : Int32)).toNatClampNeg) k2 hq_95) (cwV 1 hts gL_law_X5_count rfl rfl rfl (by decide +kernel) ⟨Nat.le_trans (by decide) hM.1, Nat.le_trans (by decide) hM.2⟩) rfl rfl (Nat.le_of_ble_eq_true rfl) dL_law_709 (hf := hcs0)) hS hdm hXK (fun H locs hR hS hXK => ?_)
  refine lv_icmp_eq (tgt := 1457) hx hb dL_law_712 (by decide) (fun hc => ?_) (fun hc => ?_)
  · have h := of_pos hc h
    obtain ⟨v_96, e_v_96⟩ : ∃ y : Int32, y = (l4 + (9 : Int32)) := ⟨_, rfl⟩
    have h := of_nm e_v_96 h
    refine lv_iinc (v := v_96) (lv' := [(4, .int v_96), (0, .ref b), (1, .ref a1), (2, .ref a2), (3, .ref a3)]) hx hb dL_law_1457 hl (k := 4) rfl (by rw [e_v_96]; rfl) (by decide) rfl (fun ls hl => ?_)
    refine lv_goto (tgt := 23) hx hb dL_law_1460 (by decide) ?_
    refine W.widen (k := cells + 1) (n := slots + 6) (Nat.le_succ _) (Nat.le_add_right _ _) ?_
    exact kb (v_96, q_95.2) (Option.some.inj h).symm H locs ls hR hS hXK (lv_sub hl [1, 2, 3, 4, 0] rfl)
  · have h := of_neg hc h
    cases h

set_option maxHeartbeats 4000000 in
set_option maxRecDepth 100000 in
theorem w_jp_L_law_717 (X : Cx cL_law (some .boolean) 8 RL wsL_law p s m #[Value.ref b] meth c) (hK : Kn cA D s) (hT : TL Λ) (hM : 8 ≤ R.frames ∧ 175 ≤ R.locals) (hlt : l.stackTraces = false) (hdm : ∀ q, dm Λ q → s.heap.size ≤ q) (hX : va_X b L xs s s.heap) (hbl : b < s.heap.size) (hcs : cells + 1 ≤ R.cells ∧ slots + 6 ≤ R.slots) (a1 a2 a3 : Nat) (k1 : isK Λ a1 5) (k2 : isK Λ a2 6) (k3 : isK Λ a3 8) (l4 : Int32) (σ : Sto) {r : (Int32 × Sto) ⊕ Sto} (h : jp_L_law_717 Λ xs L a1 a2 a3 l4 σ = some r) (kb : ∀ z : Int32 × Sto, r = .inl z → ∀ (H : Heap) (locs : List Loc) (ls : Array Slot), Rep cA D Λ z.2 H → va_S (frm s.heap.size) s.heap H locs → XK Λ sa s H → lv_has ls 8 [(0, .ref b), (1, .ref a1), (2, .ref a2), (3, .ref a3), (4, .int z.1)] → W p l e R s m #[Value.ref b] below meth c H locs (cells + 1) (slots + 6) Q (F0 m 23 ls [])) (kx : ∀ z : Sto, r = .inr z → ∀ (H : Heap) (locs : List Loc) (ls : Array Slot), Rep cA D Λ z H → va_S (frm s.heap.size) s.heap H locs → XK Λ sa s H → lv_has ls 8 [] → W p l e R s m #[Value.ref b] below meth c H locs (cells + 1) (slots + 6) Q (F0 m 1463 ls [])) (H : Heap) (locs : List Loc) (ls : Array Slot) (hR : Rep cA D Λ σ H) (hS : va_S (frm s.heap.size) s.heap H locs) (hXK : XK Λ sa s H) (hl : lv_has ls 8 [(0, .ref b), (1, .ref a1), (2, .ref a2), (3, .ref a3), (4, .int l4)]) : W p l e R s m #[Value.ref b] below meth c H locs cells slots Q (F0 m 717 ls []) := by
  have hx := X.1
  have hb := X.2.1
  have hown := X.2.2.2.2.1
  have hts := X.2.2.2.2.2.1
  have hbA : ¬ frm s.heap.size b := Nat.not_le.mpr hbl
  have hcs0 : cells ≤ R.cells ∧ slots ≤ R.slots := ⟨by omega, by omega⟩
  unfold jp_L_law_717 at h
  refine lv_aload_n hx hb dL_law_717 rfl (lv_at hl 1 rfl) ?_
  refine lv_aload_n hx hb dL_law_718 rfl (lv_at hl 0 rfl) ?_
  refine lv_iload hx hb dL_law_719 (lv_at hl 4 rfl) ?_
  refine lv_iconst (v := (1 : Int32)) hx hb dL_law_721 (by decide) ?_
  refine lv_iadd hx hb dL_law_722 ?_
  obtain ⟨hg_97, h⟩ := of_guard h
  refine va_sld hx hb hX hbl hbA hS (gd_in hg_97) dL_law_723 ?_
  refine lv_aload_n hx hb dL_law_724 rfl (lv_at hl 0 rfl) ?_
  refine lv_iload hx hb dL_law_725 (lv_at hl 4 rfl) ?_
  refine lv_iconst (v := (2 : Int32)) hx hb dL_law_727 (by decide) ?_
  refine lv_iadd hx hb dL_law_728 ?_
  obtain ⟨hg_98, h⟩ := of_guard h
  refine va_sld hx hb hX hbl hbA hS (gd_in hg_98) dL_law_729 ?_
  obtain ⟨q_99, hq_99, h⟩ := of_bind h
  refine cx_i (rn_V (As := [.int (xs (l4 + (1 : Int32)).toNatClampNeg), .int (xs (l4 + (2 : Int32)).toNatClampNeg)]) (rest := []) X hK hR k1 rfl (by decide) hl.1 (c_X4_unlike l cA D Λ hT σ a1 (xs (l4 + (1 : Int32)).toNatClampNeg) (xs (l4 + (2 : Int32)).toNatClampNeg) k1 hq_99) (cwV 2 hts gL_law_X4_unlike rfl rfl rfl (by decide +kernel) ⟨Nat.le_trans (by decide) hM.1, Nat.le_trans (by decide) hM.2⟩) rfl rfl (Nat.le_of_ble_eq_true rfl) dL_law_730 (hf := hcs0)) hS hdm hXK (fun H locs hR hS hXK => ?_)
  refine lv_aload_n hx hb dL_law_733 rfl (lv_at hl 2 rfl) ?_
  refine lv_aload_n hx hb dL_law_734 rfl (lv_at hl 0 rfl) ?_
  refine lv_iload hx hb dL_law_735 (lv_at hl 4 rfl) ?_
  refine lv_iconst (v := (1 : Int32)) hx hb dL_law_737 (by decide) ?_
  refine lv_iadd hx hb dL_law_738 ?_
  obtain ⟨hg_100, h⟩ := of_guard h
  refine va_sld hx hb hX hbl hbA hS (gd_in hg_100) dL_law_739 ?_
  refine lv_aload_n hx hb dL_law_740 rfl (lv_at hl 0 rfl) ?_
  refine lv_iload hx hb dL_law_741 (lv_at hl 4 rfl) ?_
  refine lv_iconst (v := (2 : Int32)) hx hb dL_law_743 (by decide) ?_
  refine lv_iadd hx hb dL_law_744 ?_
  obtain ⟨hg_101, h⟩ := of_guard h
  refine va_sld hx hb hX hbl hbA hS (gd_in hg_101) dL_law_745 ?_
  obtain ⟨q_102, hq_102, h⟩ := of_bind h
  refine cx_i (rn_V (As := [.int (xs (l4 + (1 : Int32)).toNatClampNeg), .int (xs (l4 + (2 : Int32)).toNatClampNeg)]) (rest := [.int q_99]) X hK hR k2 rfl (by decide) hl.1 (c_X5_unlike l cA D Λ hT σ a2 (xs (l4 + (1 : Int32)).toNatClampNeg) (xs (l4 + (2 : Int32)).toNatClampNeg) k2 hq_102) (cwV 2 hts gL_law_X5_unlike rfl rfl rfl (by decide +kernel) ⟨Nat.le_trans (by decide) hM.1, Nat.le_trans (by decide) hM.2⟩) rfl rfl (Nat.le_of_ble_eq_true rfl) dL_law_746 (hf := hcs0)) hS hdm hXK (fun H locs hR hS hXK => ?_)
  refine lv_icmp_eq (tgt := 1457) hx hb dL_law_749 (by decide) (fun hc => ?_) (fun hc => ?_)
  · have h := of_pos hc h
    obtain ⟨v_103, e_v_103⟩ : ∃ y : Int32, y = (l4 + (9 : Int32)) := ⟨_, rfl⟩
    have h := of_nm e_v_103 h
    refine lv_iinc (v := v_103) (lv' := [(4, .int v_103), (0, .ref b), (1, .ref a1), (2, .ref a2), (3, .ref a3)]) hx hb dL_law_1457 hl (k := 4) rfl (by rw [e_v_103]; rfl) (by decide) rfl (fun ls hl => ?_)
    refine lv_goto (tgt := 23) hx hb dL_law_1460 (by decide) ?_
    refine W.widen (k := cells + 1) (n := slots + 6) (Nat.le_succ _) (Nat.le_add_right _ _) ?_
    exact kb (v_103, q_102.2) (Option.some.inj h).symm H locs ls hR hS hXK (lv_sub hl [1, 2, 3, 4, 0] rfl)
  · have h := of_neg hc h
    cases h

set_option maxHeartbeats 4000000 in
set_option maxRecDepth 100000 in
theorem w_jp_L_law_754 (X : Cx cL_law (some .boolean) 8 RL wsL_law p s m #[Value.ref b] meth c) (hK : Kn cA D s) (hT : TL Λ) (hM : 8 ≤ R.frames ∧ 175 ≤ R.locals) (hlt : l.stackTraces = false) (hdm : ∀ q, dm Λ q → s.heap.size ≤ q) (hX : va_X b L xs s s.heap) (hbl : b < s.heap.size) (hcs : cells + 1 ≤ R.cells ∧ slots + 6 ≤ R.slots) (a1 a2 a3 : Nat) (k1 : isK Λ a1 5) (k2 : isK Λ a2 6) (k3 : isK Λ a3 8) (l4 : Int32) (σ : Sto) {r : (Int32 × Sto) ⊕ Sto} (h : jp_L_law_754 Λ xs L a1 a2 a3 l4 σ = some r) (kb : ∀ z : Int32 × Sto, r = .inl z → ∀ (H : Heap) (locs : List Loc) (ls : Array Slot), Rep cA D Λ z.2 H → va_S (frm s.heap.size) s.heap H locs → XK Λ sa s H → lv_has ls 8 [(0, .ref b), (1, .ref a1), (2, .ref a2), (3, .ref a3), (4, .int z.1)] → W p l e R s m #[Value.ref b] below meth c H locs (cells + 1) (slots + 6) Q (F0 m 23 ls [])) (kx : ∀ z : Sto, r = .inr z → ∀ (H : Heap) (locs : List Loc) (ls : Array Slot), Rep cA D Λ z H → va_S (frm s.heap.size) s.heap H locs → XK Λ sa s H → lv_has ls 8 [] → W p l e R s m #[Value.ref b] below meth c H locs (cells + 1) (slots + 6) Q (F0 m 1463 ls [])) (H : Heap) (locs : List Loc) (ls : Array Slot) (hR : Rep cA D Λ σ H) (hS : va_S (frm s.heap.size) s.heap H locs) (hXK : XK Λ sa s H) (hl : lv_has ls 8 [(0, .ref b), (1, .ref a1), (2, .ref a2), (3, .ref a3), (4, .int l4)]) : W p l e R s m #[Value.ref b] below meth c H locs cells slots Q (F0 m 754 ls []) := by
  have hx := X.1
  have hb := X.2.1
  have hown := X.2.2.2.2.1
  have hts := X.2.2.2.2.2.1
  have hbA : ¬ frm s.heap.size b := Nat.not_le.mpr hbl
  have hcs0 : cells ≤ R.cells ∧ slots ≤ R.slots := ⟨by omega, by omega⟩
  unfold jp_L_law_754 at h
  refine lv_aload_n hx hb dL_law_754 rfl (lv_at hl 1 rfl) ?_
  refine lv_aload_n hx hb dL_law_755 rfl (lv_at hl 0 rfl) ?_
  refine lv_iload hx hb dL_law_756 (lv_at hl 4 rfl) ?_
  refine lv_iconst (v := (1 : Int32)) hx hb dL_law_758 (by decide) ?_
  refine lv_iadd hx hb dL_law_759 ?_
  obtain ⟨hg_104, h⟩ := of_guard h
  refine va_sld hx hb hX hbl hbA hS (gd_in hg_104) dL_law_760 ?_
  refine lv_aload_n hx hb dL_law_761 rfl (lv_at hl 0 rfl) ?_
  refine lv_iload hx hb dL_law_762 (lv_at hl 4 rfl) ?_
  refine lv_iconst (v := (2 : Int32)) hx hb dL_law_764 (by decide) ?_
  refine lv_iadd hx hb dL_law_765 ?_
  obtain ⟨hg_105, h⟩ := of_guard h
  refine va_sld hx hb hX hbl hbA hS (gd_in hg_105) dL_law_766 ?_
  obtain ⟨q_106, hq_106, h⟩ := of_bind h
  refine cx_i (rn_V (As := [.int (xs (l4 + (1 : Int32)).toNatClampNeg), .int (xs (l4 + (2 : Int32)).toNatClampNeg)]) (rest := []) X hK hR k1 rfl (by decide) hl.1 (c_X4_across l cA D Λ hT σ a1 (xs (l4 + (1 : Int32)).toNatClampNeg) (xs (l4 + (2 : Int32)).toNatClampNeg) k1 hq_106) (cwV 2 hts gL_law_X4_across rfl rfl rfl (by decide +kernel) ⟨Nat.le_trans (by decide) hM.1, Nat.le_trans (by decide) hM.2⟩) rfl rfl (Nat.le_of_ble_eq_true rfl) dL_law_767 (hf := hcs0)) hS hdm hXK (fun H locs hR hS hXK => ?_)
  refine lv_aload_n hx hb dL_law_770 rfl (lv_at hl 2 rfl) ?_
  refine lv_aload_n hx hb dL_law_771 rfl (lv_at hl 0 rfl) ?_
  refine lv_iload hx hb dL_law_772 (lv_at hl 4 rfl) ?_
  refine lv_iconst (v := (1 : Int32)) hx hb dL_law_774 (by decide) ?_
  refine lv_iadd hx hb dL_law_775 ?_
  obtain ⟨hg_107, h⟩ := of_guard h
  refine va_sld hx hb hX hbl hbA hS (gd_in hg_107) dL_law_776 ?_
  refine lv_aload_n hx hb dL_law_777 rfl (lv_at hl 0 rfl) ?_
  refine lv_iload hx hb dL_law_778 (lv_at hl 4 rfl) ?_
  refine lv_iconst (v := (2 : Int32)) hx hb dL_law_780 (by decide) ?_
  refine lv_iadd hx hb dL_law_781 ?_
  obtain ⟨hg_108, h⟩ := of_guard h
  refine va_sld hx hb hX hbl hbA hS (gd_in hg_108) dL_law_782 ?_
  obtain ⟨q_109, hq_109, h⟩ := of_bind h
  refine cx_i (rn_V (As := [.int (xs (l4 + (1 : Int32)).toNatClampNeg), .int (xs (l4 + (2 : Int32)).toNatClampNeg)]) (rest := [.int q_106.1]) X hK hR k2 rfl (by decide) hl.1 (c_X5_across l cA D Λ hT q_106.2 a2 (xs (l4 + (1 : Int32)).toNatClampNeg) (xs (l4 + (2 : Int32)).toNatClampNeg) k2 hq_109) (cwV 2 hts gL_law_X5_across rfl rfl rfl (by decide +kernel) ⟨Nat.le_trans (by decide) hM.1, Nat.le_trans (by decide) hM.2⟩) rfl rfl (Nat.le_of_ble_eq_true rfl) dL_law_783 (hf := hcs0)) hS hdm hXK (fun H locs hR hS hXK => ?_)
  refine lv_icmp_eq (tgt := 1457) hx hb dL_law_786 (by decide) (fun hc => ?_) (fun hc => ?_)
  · have h := of_pos hc h
    obtain ⟨v_110, e_v_110⟩ : ∃ y : Int32, y = (l4 + (9 : Int32)) := ⟨_, rfl⟩
    have h := of_nm e_v_110 h
    refine lv_iinc (v := v_110) (lv' := [(4, .int v_110), (0, .ref b), (1, .ref a1), (2, .ref a2), (3, .ref a3)]) hx hb dL_law_1457 hl (k := 4) rfl (by rw [e_v_110]; rfl) (by decide) rfl (fun ls hl => ?_)
    refine lv_goto (tgt := 23) hx hb dL_law_1460 (by decide) ?_
    refine W.widen (k := cells + 1) (n := slots + 6) (Nat.le_succ _) (Nat.le_add_right _ _) ?_
    exact kb (v_110, q_109.2) (Option.some.inj h).symm H locs ls hR hS hXK (lv_sub hl [1, 2, 3, 4, 0] rfl)
  · have h := of_neg hc h
    cases h

set_option maxHeartbeats 4000000 in
set_option maxRecDepth 100000 in
theorem w_jp_L_law_791 (X : Cx cL_law (some .boolean) 8 RL wsL_law p s m #[Value.ref b] meth c) (hK : Kn cA D s) (hT : TL Λ) (hM : 8 ≤ R.frames ∧ 175 ≤ R.locals) (hlt : l.stackTraces = false) (hdm : ∀ q, dm Λ q → s.heap.size ≤ q) (hX : va_X b L xs s s.heap) (hbl : b < s.heap.size) (hcs : cells + 1 ≤ R.cells ∧ slots + 6 ≤ R.slots) (a1 a2 a3 : Nat) (k1 : isK Λ a1 5) (k2 : isK Λ a2 6) (k3 : isK Λ a3 8) (l4 : Int32) (σ : Sto) {r : (Int32 × Sto) ⊕ Sto} (h : jp_L_law_791 Λ xs L a1 a2 a3 l4 σ = some r) (kb : ∀ z : Int32 × Sto, r = .inl z → ∀ (H : Heap) (locs : List Loc) (ls : Array Slot), Rep cA D Λ z.2 H → va_S (frm s.heap.size) s.heap H locs → XK Λ sa s H → lv_has ls 8 [(0, .ref b), (1, .ref a1), (2, .ref a2), (3, .ref a3), (4, .int z.1)] → W p l e R s m #[Value.ref b] below meth c H locs (cells + 1) (slots + 6) Q (F0 m 23 ls [])) (kx : ∀ z : Sto, r = .inr z → ∀ (H : Heap) (locs : List Loc) (ls : Array Slot), Rep cA D Λ z H → va_S (frm s.heap.size) s.heap H locs → XK Λ sa s H → lv_has ls 8 [] → W p l e R s m #[Value.ref b] below meth c H locs (cells + 1) (slots + 6) Q (F0 m 1463 ls [])) (H : Heap) (locs : List Loc) (ls : Array Slot) (hR : Rep cA D Λ σ H) (hS : va_S (frm s.heap.size) s.heap H locs) (hXK : XK Λ sa s H) (hl : lv_has ls 8 [(0, .ref b), (1, .ref a1), (2, .ref a2), (3, .ref a3), (4, .int l4)]) : W p l e R s m #[Value.ref b] below meth c H locs cells slots Q (F0 m 791 ls []) := by
  have hx := X.1
  have hb := X.2.1
  have hown := X.2.2.2.2.1
  have hts := X.2.2.2.2.2.1
  have hbA : ¬ frm s.heap.size b := Nat.not_le.mpr hbl
  have hcs0 : cells ≤ R.cells ∧ slots ≤ R.slots := ⟨by omega, by omega⟩
  unfold jp_L_law_791 at h
  refine lv_aload_n hx hb dL_law_791 rfl (lv_at hl 1 rfl) ?_
  refine lv_aload_n hx hb dL_law_792 rfl (lv_at hl 0 rfl) ?_
  refine lv_iload hx hb dL_law_793 (lv_at hl 4 rfl) ?_
  refine lv_iconst (v := (1 : Int32)) hx hb dL_law_795 (by decide) ?_
  refine lv_iadd hx hb dL_law_796 ?_
  obtain ⟨hg_111, h⟩ := of_guard h
  refine va_sld hx hb hX hbl hbA hS (gd_in hg_111) dL_law_797 ?_
  refine lv_aload_n hx hb dL_law_798 rfl (lv_at hl 0 rfl) ?_
  refine lv_iload hx hb dL_law_799 (lv_at hl 4 rfl) ?_
  refine lv_iconst (v := (2 : Int32)) hx hb dL_law_801 (by decide) ?_
  refine lv_iadd hx hb dL_law_802 ?_
  obtain ⟨hg_112, h⟩ := of_guard h
  refine va_sld hx hb hX hbl hbA hS (gd_in hg_112) dL_law_803 ?_
  obtain ⟨q_113, hq_113, h⟩ := of_bind h
  refine cx_i (rn_V (As := [.int (xs (l4 + (1 : Int32)).toNatClampNeg), .int (xs (l4 + (2 : Int32)).toNatClampNeg)]) (rest := []) X hK hR k1 rfl (by decide) hl.1 (c_X4_upright l cA D Λ hT σ a1 (xs (l4 + (1 : Int32)).toNatClampNeg) (xs (l4 + (2 : Int32)).toNatClampNeg) k1 hq_113) (cwV 2 hts gL_law_X4_upright rfl rfl rfl (by decide +kernel) ⟨Nat.le_trans (by decide) hM.1, Nat.le_trans (by decide) hM.2⟩) rfl rfl (Nat.le_of_ble_eq_true rfl) dL_law_804 (hf := hcs0)) hS hdm hXK (fun H locs hR hS hXK => ?_)
  refine lv_aload_n hx hb dL_law_807 rfl (lv_at hl 2 rfl) ?_
  refine lv_aload_n hx hb dL_law_808 rfl (lv_at hl 0 rfl) ?_
  refine lv_iload hx hb dL_law_809 (lv_at hl 4 rfl) ?_
  refine lv_iconst (v := (1 : Int32)) hx hb dL_law_811 (by decide) ?_
  refine lv_iadd hx hb dL_law_812 ?_
  obtain ⟨hg_114, h⟩ := of_guard h
  refine va_sld hx hb hX hbl hbA hS (gd_in hg_114) dL_law_813 ?_
  refine lv_aload_n hx hb dL_law_814 rfl (lv_at hl 0 rfl) ?_
  refine lv_iload hx hb dL_law_815 (lv_at hl 4 rfl) ?_
  refine lv_iconst (v := (2 : Int32)) hx hb dL_law_817 (by decide) ?_
  refine lv_iadd hx hb dL_law_818 ?_
  obtain ⟨hg_115, h⟩ := of_guard h
  refine va_sld hx hb hX hbl hbA hS (gd_in hg_115) dL_law_819 ?_
  obtain ⟨q_116, hq_116, h⟩ := of_bind h
  refine cx_i (rn_V (As := [.int (xs (l4 + (1 : Int32)).toNatClampNeg), .int (xs (l4 + (2 : Int32)).toNatClampNeg)]) (rest := [.int q_113.1]) X hK hR k2 rfl (by decide) hl.1 (c_X5_upright l cA D Λ hT q_113.2 a2 (xs (l4 + (1 : Int32)).toNatClampNeg) (xs (l4 + (2 : Int32)).toNatClampNeg) k2 hq_116) (cwV 2 hts gL_law_X5_upright rfl rfl rfl (by decide +kernel) ⟨Nat.le_trans (by decide) hM.1, Nat.le_trans (by decide) hM.2⟩) rfl rfl (Nat.le_of_ble_eq_true rfl) dL_law_820 (hf := hcs0)) hS hdm hXK (fun H locs hR hS hXK => ?_)
  refine lv_icmp_eq (tgt := 1457) hx hb dL_law_823 (by decide) (fun hc => ?_) (fun hc => ?_)
  · have h := of_pos hc h
    obtain ⟨v_117, e_v_117⟩ : ∃ y : Int32, y = (l4 + (9 : Int32)) := ⟨_, rfl⟩
    have h := of_nm e_v_117 h
    refine lv_iinc (v := v_117) (lv' := [(4, .int v_117), (0, .ref b), (1, .ref a1), (2, .ref a2), (3, .ref a3)]) hx hb dL_law_1457 hl (k := 4) rfl (by rw [e_v_117]; rfl) (by decide) rfl (fun ls hl => ?_)
    refine lv_goto (tgt := 23) hx hb dL_law_1460 (by decide) ?_
    refine W.widen (k := cells + 1) (n := slots + 6) (Nat.le_succ _) (Nat.le_add_right _ _) ?_
    exact kb (v_117, q_116.2) (Option.some.inj h).symm H locs ls hR hS hXK (lv_sub hl [1, 2, 3, 4, 0] rfl)
  · have h := of_neg hc h
    cases h

set_option maxHeartbeats 4000000 in
set_option maxRecDepth 100000 in
theorem w_jp_L_law_828 (X : Cx cL_law (some .boolean) 8 RL wsL_law p s m #[Value.ref b] meth c) (hK : Kn cA D s) (hT : TL Λ) (hM : 8 ≤ R.frames ∧ 175 ≤ R.locals) (hlt : l.stackTraces = false) (hdm : ∀ q, dm Λ q → s.heap.size ≤ q) (hX : va_X b L xs s s.heap) (hbl : b < s.heap.size) (hcs : cells + 1 ≤ R.cells ∧ slots + 6 ≤ R.slots) (a1 a2 a3 : Nat) (k1 : isK Λ a1 5) (k2 : isK Λ a2 6) (k3 : isK Λ a3 8) (l4 : Int32) (σ : Sto) {r : (Int32 × Sto) ⊕ Sto} (h : jp_L_law_828 Λ xs L a1 a2 a3 l4 σ = some r) (kb : ∀ z : Int32 × Sto, r = .inl z → ∀ (H : Heap) (locs : List Loc) (ls : Array Slot), Rep cA D Λ z.2 H → va_S (frm s.heap.size) s.heap H locs → XK Λ sa s H → lv_has ls 8 [(0, .ref b), (1, .ref a1), (2, .ref a2), (3, .ref a3), (4, .int z.1)] → W p l e R s m #[Value.ref b] below meth c H locs (cells + 1) (slots + 6) Q (F0 m 23 ls [])) (kx : ∀ z : Sto, r = .inr z → ∀ (H : Heap) (locs : List Loc) (ls : Array Slot), Rep cA D Λ z H → va_S (frm s.heap.size) s.heap H locs → XK Λ sa s H → lv_has ls 8 [] → W p l e R s m #[Value.ref b] below meth c H locs (cells + 1) (slots + 6) Q (F0 m 1463 ls [])) (H : Heap) (locs : List Loc) (ls : Array Slot) (hR : Rep cA D Λ σ H) (hS : va_S (frm s.heap.size) s.heap H locs) (hXK : XK Λ sa s H) (hl : lv_has ls 8 [(0, .ref b), (1, .ref a1), (2, .ref a2), (3, .ref a3), (4, .int l4)]) : W p l e R s m #[Value.ref b] below meth c H locs cells slots Q (F0 m 828 ls []) := by
  have hx := X.1
  have hb := X.2.1
  have hown := X.2.2.2.2.1
  have hts := X.2.2.2.2.2.1
  have hbA : ¬ frm s.heap.size b := Nat.not_le.mpr hbl
  have hcs0 : cells ≤ R.cells ∧ slots ≤ R.slots := ⟨by omega, by omega⟩
  unfold jp_L_law_828 at h
  refine lv_aload_n hx hb dL_law_828 rfl (lv_at hl 1 rfl) ?_
  refine lv_aload_n hx hb dL_law_829 rfl (lv_at hl 0 rfl) ?_
  refine lv_iload hx hb dL_law_830 (lv_at hl 4 rfl) ?_
  refine lv_iconst (v := (1 : Int32)) hx hb dL_law_832 (by decide) ?_
  refine lv_iadd hx hb dL_law_833 ?_
  obtain ⟨hg_118, h⟩ := of_guard h
  refine va_sld hx hb hX hbl hbA hS (gd_in hg_118) dL_law_834 ?_
  refine lv_aload_n hx hb dL_law_835 rfl (lv_at hl 0 rfl) ?_
  refine lv_iload hx hb dL_law_836 (lv_at hl 4 rfl) ?_
  refine lv_iconst (v := (2 : Int32)) hx hb dL_law_838 (by decide) ?_
  refine lv_iadd hx hb dL_law_839 ?_
  obtain ⟨hg_119, h⟩ := of_guard h
  refine va_sld hx hb hX hbl hbA hS (gd_in hg_119) dL_law_840 ?_
  refine lv_aload_n hx hb dL_law_841 rfl (lv_at hl 0 rfl) ?_
  refine lv_iload hx hb dL_law_842 (lv_at hl 4 rfl) ?_
  refine lv_iconst (v := (3 : Int32)) hx hb dL_law_844 (by decide) ?_
  refine lv_iadd hx hb dL_law_845 ?_
  obtain ⟨hg_120, h⟩ := of_guard h
  refine va_sld hx hb hX hbl hbA hS (gd_in hg_120) dL_law_846 ?_
  obtain ⟨q_121, hq_121, h⟩ := of_bind h
  refine cx_z (rn_V (As := [.int (xs (l4 + (1 : Int32)).toNatClampNeg), .int (xs (l4 + (2 : Int32)).toNatClampNeg), .int (xs (l4 + (3 : Int32)).toNatClampNeg)]) (rest := []) X hK hR k1 rfl (by decide) hl.1 (c_X4_turn l cA D Λ hT σ a1 (xs (l4 + (1 : Int32)).toNatClampNeg) (xs (l4 + (2 : Int32)).toNatClampNeg) (xs (l4 + (3 : Int32)).toNatClampNeg) k1 hq_121) (cwV 3 hts gL_law_X4_turn rfl rfl rfl (by decide +kernel) ⟨Nat.le_trans (by decide) hM.1, Nat.le_trans (by decide) hM.2⟩) rfl rfl (Nat.le_of_ble_eq_true rfl) dL_law_847 (hf := hcs0)) hS hdm hXK (fun H locs hR hS hXK => ?_)
  refine lv_aload_n hx hb dL_law_850 rfl (lv_at hl 2 rfl) ?_
  refine lv_aload_n hx hb dL_law_851 rfl (lv_at hl 0 rfl) ?_
  refine lv_iload hx hb dL_law_852 (lv_at hl 4 rfl) ?_
  refine lv_iconst (v := (1 : Int32)) hx hb dL_law_854 (by decide) ?_
  refine lv_iadd hx hb dL_law_855 ?_
  obtain ⟨hg_122, h⟩ := of_guard h
  refine va_sld hx hb hX hbl hbA hS (gd_in hg_122) dL_law_856 ?_
  refine lv_aload_n hx hb dL_law_857 rfl (lv_at hl 0 rfl) ?_
  refine lv_iload hx hb dL_law_858 (lv_at hl 4 rfl) ?_
  refine lv_iconst (v := (2 : Int32)) hx hb dL_law_860 (by decide) ?_
  refine lv_iadd hx hb dL_law_861 ?_
  obtain ⟨hg_123, h⟩ := of_guard h
  refine va_sld hx hb hX hbl hbA hS (gd_in hg_123) dL_law_862 ?_
  refine lv_aload_n hx hb dL_law_863 rfl (lv_at hl 0 rfl) ?_
  refine lv_iload hx hb dL_law_864 (lv_at hl 4 rfl) ?_
  refine lv_iconst (v := (3 : Int32)) hx hb dL_law_866 (by decide) ?_
  refine lv_iadd hx hb dL_law_867 ?_
  obtain ⟨hg_124, h⟩ := of_guard h
  refine va_sld hx hb hX hbl hbA hS (gd_in hg_124) dL_law_868 ?_
  obtain ⟨q_125, hq_125, h⟩ := of_bind h
  refine cx_z (rn_V (As := [.int (xs (l4 + (1 : Int32)).toNatClampNeg), .int (xs (l4 + (2 : Int32)).toNatClampNeg), .int (xs (l4 + (3 : Int32)).toNatClampNeg)]) (rest := [.int q_121.1]) X hK hR k2 rfl (by decide) hl.1 (c_X5_turn l cA D Λ hT q_121.2 a2 (xs (l4 + (1 : Int32)).toNatClampNeg) (xs (l4 + (2 : Int32)).toNatClampNeg) (xs (l4 + (3 : Int32)).toNatClampNeg) k2 hq_125) (cwV 3 hts gL_law_X5_turn rfl rfl rfl (by decide +kernel) ⟨Nat.le_trans (by decide) hM.1, Nat.le_trans (by decide) hM.2⟩) rfl rfl (Nat.le_of_ble_eq_true rfl) dL_law_869 (hf := hcs0)) hS hdm hXK (fun H locs hR hS hXK => ?_)
  refine lv_icmp_eq (tgt := 1457) hx hb dL_law_872 (by decide) (fun hc => ?_) (fun hc => ?_)
  · have h := of_pos hc h
    obtain ⟨v_126, e_v_126⟩ : ∃ y : Int32, y = (l4 + (9 : Int32)) := ⟨_, rfl⟩
    have h := of_nm e_v_126 h
    refine lv_iinc (v := v_126) (lv' := [(4, .int v_126), (0, .ref b), (1, .ref a1), (2, .ref a2), (3, .ref a3)]) hx hb dL_law_1457 hl (k := 4) rfl (by rw [e_v_126]; rfl) (by decide) rfl (fun ls hl => ?_)
    refine lv_goto (tgt := 23) hx hb dL_law_1460 (by decide) ?_
    refine W.widen (k := cells + 1) (n := slots + 6) (Nat.le_succ _) (Nat.le_add_right _ _) ?_
    exact kb (v_126, q_125.2) (Option.some.inj h).symm H locs ls hR hS hXK (lv_sub hl [1, 2, 3, 4, 0] rfl)
  · have h := of_neg hc h
    cases h

set_option maxHeartbeats 4000000 in
set_option maxRecDepth 100000 in
theorem w_jp_L_law_877 (X : Cx cL_law (some .boolean) 8 RL wsL_law p s m #[Value.ref b] meth c) (hK : Kn cA D s) (hT : TL Λ) (hM : 8 ≤ R.frames ∧ 175 ≤ R.locals) (hlt : l.stackTraces = false) (hdm : ∀ q, dm Λ q → s.heap.size ≤ q) (hX : va_X b L xs s s.heap) (hbl : b < s.heap.size) (hcs : cells + 1 ≤ R.cells ∧ slots + 6 ≤ R.slots) (a1 a2 a3 : Nat) (k1 : isK Λ a1 5) (k2 : isK Λ a2 6) (k3 : isK Λ a3 8) (l4 : Int32) (σ : Sto) {r : (Int32 × Sto) ⊕ Sto} (h : jp_L_law_877 Λ xs L a1 a2 a3 l4 σ = some r) (kb : ∀ z : Int32 × Sto, r = .inl z → ∀ (H : Heap) (locs : List Loc) (ls : Array Slot), Rep cA D Λ z.2 H → va_S (frm s.heap.size) s.heap H locs → XK Λ sa s H → lv_has ls 8 [(0, .ref b), (1, .ref a1), (2, .ref a2), (3, .ref a3), (4, .int z.1)] → W p l e R s m #[Value.ref b] below meth c H locs (cells + 1) (slots + 6) Q (F0 m 23 ls [])) (kx : ∀ z : Sto, r = .inr z → ∀ (H : Heap) (locs : List Loc) (ls : Array Slot), Rep cA D Λ z H → va_S (frm s.heap.size) s.heap H locs → XK Λ sa s H → lv_has ls 8 [] → W p l e R s m #[Value.ref b] below meth c H locs (cells + 1) (slots + 6) Q (F0 m 1463 ls [])) (H : Heap) (locs : List Loc) (ls : Array Slot) (hR : Rep cA D Λ σ H) (hS : va_S (frm s.heap.size) s.heap H locs) (hXK : XK Λ sa s H) (hl : lv_has ls 8 [(0, .ref b), (1, .ref a1), (2, .ref a2), (3, .ref a3), (4, .int l4)]) : W p l e R s m #[Value.ref b] below meth c H locs cells slots Q (F0 m 877 ls []) := by
  have hx := X.1
  have hb := X.2.1
  have hown := X.2.2.2.2.1
  have hts := X.2.2.2.2.2.1
  have hbA : ¬ frm s.heap.size b := Nat.not_le.mpr hbl
  have hcs0 : cells ≤ R.cells ∧ slots ≤ R.slots := ⟨by omega, by omega⟩
  unfold jp_L_law_877 at h
  refine lv_aload_n hx hb dL_law_877 rfl (lv_at hl 1 rfl) ?_
  refine lv_aload_n hx hb dL_law_878 rfl (lv_at hl 0 rfl) ?_
  refine lv_iload hx hb dL_law_879 (lv_at hl 4 rfl) ?_
  refine lv_iconst (v := (1 : Int32)) hx hb dL_law_881 (by decide) ?_
  refine lv_iadd hx hb dL_law_882 ?_
  obtain ⟨hg_127, h⟩ := of_guard h
  refine va_sld hx hb hX hbl hbA hS (gd_in hg_127) dL_law_883 ?_
  refine lv_aload_n hx hb dL_law_884 rfl (lv_at hl 0 rfl) ?_
  refine lv_iload hx hb dL_law_885 (lv_at hl 4 rfl) ?_
  refine lv_iconst (v := (2 : Int32)) hx hb dL_law_887 (by decide) ?_
  refine lv_iadd hx hb dL_law_888 ?_
  obtain ⟨hg_128, h⟩ := of_guard h
  refine va_sld hx hb hX hbl hbA hS (gd_in hg_128) dL_law_889 ?_
  obtain ⟨q_129, hq_129, h⟩ := of_bind h
  refine cx_i (rn_V (As := [.int (xs (l4 + (1 : Int32)).toNatClampNeg), .int (xs (l4 + (2 : Int32)).toNatClampNeg)]) (rest := []) X hK hR k1 rfl (by decide) hl.1 (c_X4_sharp l cA D Λ hT σ a1 (xs (l4 + (1 : Int32)).toNatClampNeg) (xs (l4 + (2 : Int32)).toNatClampNeg) k1 hq_129) (cwV 2 hts gL_law_X4_sharp rfl rfl rfl (by decide +kernel) ⟨Nat.le_trans (by decide) hM.1, Nat.le_trans (by decide) hM.2⟩) rfl rfl (Nat.le_of_ble_eq_true rfl) dL_law_890 (hf := hcs0)) hS hdm hXK (fun H locs hR hS hXK => ?_)
  refine lv_aload_n hx hb dL_law_893 rfl (lv_at hl 2 rfl) ?_
  refine lv_aload_n hx hb dL_law_894 rfl (lv_at hl 0 rfl) ?_
  refine lv_iload hx hb dL_law_895 (lv_at hl 4 rfl) ?_
  refine lv_iconst (v := (1 : Int32)) hx hb dL_law_897 (by decide) ?_
  refine lv_iadd hx hb dL_law_898 ?_
  obtain ⟨hg_130, h⟩ := of_guard h
  refine va_sld hx hb hX hbl hbA hS (gd_in hg_130) dL_law_899 ?_
  refine lv_aload_n hx hb dL_law_900 rfl (lv_at hl 0 rfl) ?_
  refine lv_iload hx hb dL_law_901 (lv_at hl 4 rfl) ?_
  refine lv_iconst (v := (2 : Int32)) hx hb dL_law_903 (by decide) ?_
  refine lv_iadd hx hb dL_law_904 ?_
  obtain ⟨hg_131, h⟩ := of_guard h
  refine va_sld hx hb hX hbl hbA hS (gd_in hg_131) dL_law_905 ?_
  obtain ⟨q_132, hq_132, h⟩ := of_bind h
  refine cx_i (rn_V (As := [.int (xs (l4 + (1 : Int32)).toNatClampNeg), .int (xs (l4 + (2 : Int32)).toNatClampNeg)]) (rest := [.int q_129.1]) X hK hR k2 rfl (by decide) hl.1 (c_X5_sharp l cA D Λ hT q_129.2 a2 (xs (l4 + (1 : Int32)).toNatClampNeg) (xs (l4 + (2 : Int32)).toNatClampNeg) k2 hq_132) (cwV 2 hts gL_law_X5_sharp rfl rfl rfl (by decide +kernel) ⟨Nat.le_trans (by decide) hM.1, Nat.le_trans (by decide) hM.2⟩) rfl rfl (Nat.le_of_ble_eq_true rfl) dL_law_906 (hf := hcs0)) hS hdm hXK (fun H locs hR hS hXK => ?_)
  refine lv_icmp_eq (tgt := 1457) hx hb dL_law_909 (by decide) (fun hc => ?_) (fun hc => ?_)
  · have h := of_pos hc h
    obtain ⟨v_133, e_v_133⟩ : ∃ y : Int32, y = (l4 + (9 : Int32)) := ⟨_, rfl⟩
    have h := of_nm e_v_133 h
    refine lv_iinc (v := v_133) (lv' := [(4, .int v_133), (0, .ref b), (1, .ref a1), (2, .ref a2), (3, .ref a3)]) hx hb dL_law_1457 hl (k := 4) rfl (by rw [e_v_133]; rfl) (by decide) rfl (fun ls hl => ?_)
    refine lv_goto (tgt := 23) hx hb dL_law_1460 (by decide) ?_
    refine W.widen (k := cells + 1) (n := slots + 6) (Nat.le_succ _) (Nat.le_add_right _ _) ?_
    exact kb (v_133, q_132.2) (Option.some.inj h).symm H locs ls hR hS hXK (lv_sub hl [1, 2, 3, 4, 0] rfl)
  · have h := of_neg hc h
    cases h
