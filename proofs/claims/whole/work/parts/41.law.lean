variable {p : Program} {l : Launch} {e : Env} {R : Room} {s : State} {m : MethodId} {below : List Frame} {meth : Method} {c : Code} {Q : State → Prop} {cA : Nat → ClassId} {D : va_G} {Λ : Lay} {sa : Nat → Nat} {b L : Nat} {xs : Nat → Int32} {cells slots : Nat}
set_option maxHeartbeats 4000000 in
set_option maxRecDepth 100000 in
theorem w_jp_L_law_914 (X : Cx cL_law (some .boolean) 8 RL wsL_law p s m #[Value.ref b] meth c) (hK : Kn cA D s) (hT : TL Λ) (hM : 8 ≤ R.frames ∧ 175 ≤ R.locals) (hlt : l.stackTraces = false) (hdm : ∀ q, dm Λ q → s.heap.size ≤ q) (hX : va_X b L xs s s.heap) (hbl : b < s.heap.size) (hcs : cells + 1 ≤ R.cells ∧ slots + 6 ≤ R.slots) (a1 a2 a3 : Nat) (k1 : isK Λ a1 5) (k2 : isK Λ a2 6) (k3 : isK Λ a3 8) (l4 : Int32) (σ : Sto) {r : (Int32 × Sto) ⊕ Sto} (h : jp_L_law_914 Λ xs L a1 a2 a3 l4 σ = some r) (kb : ∀ z : Int32 × Sto, r = .inl z → ∀ (H : Heap) (locs : List Loc) (ls : Array Slot), Rep cA D Λ z.2 H → va_S (frm s.heap.size) s.heap H locs → XK Λ sa s H → lv_has ls 8 [(0, .ref b), (1, .ref a1), (2, .ref a2), (3, .ref a3), (4, .int z.1)] → W p l e R s m #[Value.ref b] below meth c H locs (cells + 1) (slots + 6) Q (F0 m 23 ls [])) (kx : ∀ z : Sto, r = .inr z → ∀ (H : Heap) (locs : List Loc) (ls : Array Slot), Rep cA D Λ z H → va_S (frm s.heap.size) s.heap H locs → XK Λ sa s H → lv_has ls 8 [] → W p l e R s m #[Value.ref b] below meth c H locs (cells + 1) (slots + 6) Q (F0 m 1463 ls [])) (H : Heap) (locs : List Loc) (ls : Array Slot) (hR : Rep cA D Λ σ H) (hS : va_S (frm s.heap.size) s.heap H locs) (hXK : XK Λ sa s H) (hl : lv_has ls 8 [(0, .ref b), (1, .ref a1), (2, .ref a2), (3, .ref a3), (4, .int l4)]) : W p l e R s m #[Value.ref b] below meth c H locs cells slots Q (F0 m 914 ls []) := by
  have hx := X.1
  have hb := X.2.1
  have hown := X.2.2.2.2.1
  have hts := X.2.2.2.2.2.1
  have hbA : ¬ frm s.heap.size b := Nat.not_le.mpr hbl
  have hcs0 : cells ≤ R.cells ∧ slots ≤ R.slots := ⟨by omega, by omega⟩
  unfold jp_L_law_914 at h
  refine lv_aload_n hx hb dL_law_914 rfl (lv_at hl 1 rfl) ?_
  refine lv_aload_n hx hb dL_law_915 rfl (lv_at hl 0 rfl) ?_
  refine lv_iload hx hb dL_law_916 (lv_at hl 4 rfl) ?_
  refine lv_iconst (v := (1 : Int32)) hx hb dL_law_918 (by decide) ?_
  refine lv_iadd hx hb dL_law_919 ?_
  obtain ⟨hg_134, h⟩ := of_guard h
  refine va_sld hx hb hX hbl hbA hS (gd_in hg_134) dL_law_920 ?_
  obtain ⟨q_135, hq_135, h⟩ := of_bind h
  refine cx_i (rn_V (As := [.int (xs (l4 + (1 : Int32)).toNatClampNeg)]) (rest := []) X hK hR k1 rfl (by decide) hl.1 (c_X4_angle l cA D Λ hT σ a1 (xs (l4 + (1 : Int32)).toNatClampNeg) k1 hq_135) (cwV 1 hts gL_law_X4_angle rfl rfl rfl (by decide +kernel) ⟨Nat.le_trans (by decide) hM.1, Nat.le_trans (by decide) hM.2⟩) rfl rfl (Nat.le_of_ble_eq_true rfl) dL_law_921 (hf := hcs0)) hS hdm hXK (fun H locs hR hS hXK => ?_)
  refine lv_aload_n hx hb dL_law_924 rfl (lv_at hl 2 rfl) ?_
  refine lv_aload_n hx hb dL_law_925 rfl (lv_at hl 0 rfl) ?_
  refine lv_iload hx hb dL_law_926 (lv_at hl 4 rfl) ?_
  refine lv_iconst (v := (1 : Int32)) hx hb dL_law_928 (by decide) ?_
  refine lv_iadd hx hb dL_law_929 ?_
  obtain ⟨hg_136, h⟩ := of_guard h
  refine va_sld hx hb hX hbl hbA hS (gd_in hg_136) dL_law_930 ?_
  obtain ⟨q_137, hq_137, h⟩ := of_bind h
  refine cx_i (rn_V (As := [.int (xs (l4 + (1 : Int32)).toNatClampNeg)]) (rest := [.int q_135.1]) X hK hR k2 rfl (by decide) hl.1 (c_X5_angle l cA D Λ hT q_135.2 a2 (xs (l4 + (1 : Int32)).toNatClampNeg) k2 hq_137) (cwV 1 hts gL_law_X5_angle rfl rfl rfl (by decide +kernel) ⟨Nat.le_trans (by decide) hM.1, Nat.le_trans (by decide) hM.2⟩) rfl rfl (Nat.le_of_ble_eq_true rfl) dL_law_931 (hf := hcs0)) hS hdm hXK (fun H locs hR hS hXK => ?_)
  refine lv_icmp_eq (tgt := 1457) hx hb dL_law_934 (by decide) (fun hc => ?_) (fun hc => ?_)
  · have h := of_pos hc h
    obtain ⟨v_138, e_v_138⟩ : ∃ y : Int32, y = (l4 + (9 : Int32)) := ⟨_, rfl⟩
    have h := of_nm e_v_138 h
    refine lv_iinc (v := v_138) (lv' := [(4, .int v_138), (0, .ref b), (1, .ref a1), (2, .ref a2), (3, .ref a3)]) hx hb dL_law_1457 hl (k := 4) rfl (by rw [e_v_138]; rfl) (by decide) rfl (fun ls hl => ?_)
    refine lv_goto (tgt := 23) hx hb dL_law_1460 (by decide) ?_
    refine W.widen (k := cells + 1) (n := slots + 6) (Nat.le_succ _) (Nat.le_add_right _ _) ?_
    exact kb (v_138, q_137.2) (Option.some.inj h).symm H locs ls hR hS hXK (lv_sub hl [1, 2, 3, 4, 0] rfl)
  · have h := of_neg hc h
    cases h

set_option maxHeartbeats 4000000 in
set_option maxRecDepth 100000 in
theorem w_jp_L_law_939 (X : Cx cL_law (some .boolean) 8 RL wsL_law p s m #[Value.ref b] meth c) (hK : Kn cA D s) (hT : TL Λ) (hM : 8 ≤ R.frames ∧ 175 ≤ R.locals) (hlt : l.stackTraces = false) (hdm : ∀ q, dm Λ q → s.heap.size ≤ q) (hX : va_X b L xs s s.heap) (hbl : b < s.heap.size) (hcs : cells + 1 ≤ R.cells ∧ slots + 6 ≤ R.slots) (a1 a2 a3 : Nat) (k1 : isK Λ a1 5) (k2 : isK Λ a2 6) (k3 : isK Λ a3 8) (l4 : Int32) (σ : Sto) {r : (Int32 × Sto) ⊕ Sto} (h : jp_L_law_939 Λ xs L a1 a2 a3 l4 σ = some r) (kb : ∀ z : Int32 × Sto, r = .inl z → ∀ (H : Heap) (locs : List Loc) (ls : Array Slot), Rep cA D Λ z.2 H → va_S (frm s.heap.size) s.heap H locs → XK Λ sa s H → lv_has ls 8 [(0, .ref b), (1, .ref a1), (2, .ref a2), (3, .ref a3), (4, .int z.1)] → W p l e R s m #[Value.ref b] below meth c H locs (cells + 1) (slots + 6) Q (F0 m 23 ls [])) (kx : ∀ z : Sto, r = .inr z → ∀ (H : Heap) (locs : List Loc) (ls : Array Slot), Rep cA D Λ z H → va_S (frm s.heap.size) s.heap H locs → XK Λ sa s H → lv_has ls 8 [] → W p l e R s m #[Value.ref b] below meth c H locs (cells + 1) (slots + 6) Q (F0 m 1463 ls [])) (H : Heap) (locs : List Loc) (ls : Array Slot) (hR : Rep cA D Λ σ H) (hS : va_S (frm s.heap.size) s.heap H locs) (hXK : XK Λ sa s H) (hl : lv_has ls 8 [(0, .ref b), (1, .ref a1), (2, .ref a2), (3, .ref a3), (4, .int l4)]) : W p l e R s m #[Value.ref b] below meth c H locs cells slots Q (F0 m 939 ls []) := by
  have hx := X.1
  have hb := X.2.1
  have hown := X.2.2.2.2.1
  have hts := X.2.2.2.2.2.1
  have hbA : ¬ frm s.heap.size b := Nat.not_le.mpr hbl
  have hcs0 : cells ≤ R.cells ∧ slots ≤ R.slots := ⟨by omega, by omega⟩
  unfold jp_L_law_939 at h
  refine lv_aload_n hx hb dL_law_939 rfl (lv_at hl 1 rfl) ?_
  refine lv_aload_n hx hb dL_law_940 rfl (lv_at hl 0 rfl) ?_
  refine lv_iload hx hb dL_law_941 (lv_at hl 4 rfl) ?_
  refine lv_iconst (v := (1 : Int32)) hx hb dL_law_943 (by decide) ?_
  refine lv_iadd hx hb dL_law_944 ?_
  obtain ⟨hg_139, h⟩ := of_guard h
  refine va_sld hx hb hX hbl hbA hS (gd_in hg_139) dL_law_945 ?_
  obtain ⟨q_140, hq_140, h⟩ := of_bind h
  refine cx_i (rn_V (As := [.int (xs (l4 + (1 : Int32)).toNatClampNeg)]) (rest := []) X hK hR k1 rfl (by decide) hl.1 (c_X4_bend l cA D Λ hT σ a1 (xs (l4 + (1 : Int32)).toNatClampNeg) k1 hq_140) (cwV 1 hts gL_law_X4_bend rfl rfl rfl (by decide +kernel) ⟨Nat.le_trans (by decide) hM.1, Nat.le_trans (by decide) hM.2⟩) rfl rfl (Nat.le_of_ble_eq_true rfl) dL_law_946 (hf := hcs0)) hS hdm hXK (fun H locs hR hS hXK => ?_)
  refine lv_aload_n hx hb dL_law_949 rfl (lv_at hl 2 rfl) ?_
  refine lv_aload_n hx hb dL_law_950 rfl (lv_at hl 0 rfl) ?_
  refine lv_iload hx hb dL_law_951 (lv_at hl 4 rfl) ?_
  refine lv_iconst (v := (1 : Int32)) hx hb dL_law_953 (by decide) ?_
  refine lv_iadd hx hb dL_law_954 ?_
  obtain ⟨hg_141, h⟩ := of_guard h
  refine va_sld hx hb hX hbl hbA hS (gd_in hg_141) dL_law_955 ?_
  obtain ⟨q_142, hq_142, h⟩ := of_bind h
  refine cx_i (rn_V (As := [.int (xs (l4 + (1 : Int32)).toNatClampNeg)]) (rest := [.int q_140.1]) X hK hR k2 rfl (by decide) hl.1 (c_X5_bend l cA D Λ hT q_140.2 a2 (xs (l4 + (1 : Int32)).toNatClampNeg) k2 hq_142) (cwV 1 hts gL_law_X5_bend rfl rfl rfl (by decide +kernel) ⟨Nat.le_trans (by decide) hM.1, Nat.le_trans (by decide) hM.2⟩) rfl rfl (Nat.le_of_ble_eq_true rfl) dL_law_956 (hf := hcs0)) hS hdm hXK (fun H locs hR hS hXK => ?_)
  refine lv_icmp_eq (tgt := 1457) hx hb dL_law_959 (by decide) (fun hc => ?_) (fun hc => ?_)
  · have h := of_pos hc h
    obtain ⟨v_143, e_v_143⟩ : ∃ y : Int32, y = (l4 + (9 : Int32)) := ⟨_, rfl⟩
    have h := of_nm e_v_143 h
    refine lv_iinc (v := v_143) (lv' := [(4, .int v_143), (0, .ref b), (1, .ref a1), (2, .ref a2), (3, .ref a3)]) hx hb dL_law_1457 hl (k := 4) rfl (by rw [e_v_143]; rfl) (by decide) rfl (fun ls hl => ?_)
    refine lv_goto (tgt := 23) hx hb dL_law_1460 (by decide) ?_
    refine W.widen (k := cells + 1) (n := slots + 6) (Nat.le_succ _) (Nat.le_add_right _ _) ?_
    exact kb (v_143, q_142.2) (Option.some.inj h).symm H locs ls hR hS hXK (lv_sub hl [1, 2, 3, 4, 0] rfl)
  · have h := of_neg hc h
    cases h

set_option maxHeartbeats 4000000 in
set_option maxRecDepth 100000 in
theorem w_jp_L_law_964 (X : Cx cL_law (some .boolean) 8 RL wsL_law p s m #[Value.ref b] meth c) (hK : Kn cA D s) (hT : TL Λ) (hM : 8 ≤ R.frames ∧ 175 ≤ R.locals) (hlt : l.stackTraces = false) (hdm : ∀ q, dm Λ q → s.heap.size ≤ q) (hX : va_X b L xs s s.heap) (hbl : b < s.heap.size) (hcs : cells + 1 ≤ R.cells ∧ slots + 6 ≤ R.slots) (a1 a2 a3 : Nat) (k1 : isK Λ a1 5) (k2 : isK Λ a2 6) (k3 : isK Λ a3 8) (l4 : Int32) (σ : Sto) {r : (Int32 × Sto) ⊕ Sto} (h : jp_L_law_964 Λ xs L a1 a2 a3 l4 σ = some r) (kb : ∀ z : Int32 × Sto, r = .inl z → ∀ (H : Heap) (locs : List Loc) (ls : Array Slot), Rep cA D Λ z.2 H → va_S (frm s.heap.size) s.heap H locs → XK Λ sa s H → lv_has ls 8 [(0, .ref b), (1, .ref a1), (2, .ref a2), (3, .ref a3), (4, .int z.1)] → W p l e R s m #[Value.ref b] below meth c H locs (cells + 1) (slots + 6) Q (F0 m 23 ls [])) (kx : ∀ z : Sto, r = .inr z → ∀ (H : Heap) (locs : List Loc) (ls : Array Slot), Rep cA D Λ z H → va_S (frm s.heap.size) s.heap H locs → XK Λ sa s H → lv_has ls 8 [] → W p l e R s m #[Value.ref b] below meth c H locs (cells + 1) (slots + 6) Q (F0 m 1463 ls [])) (H : Heap) (locs : List Loc) (ls : Array Slot) (hR : Rep cA D Λ σ H) (hS : va_S (frm s.heap.size) s.heap H locs) (hXK : XK Λ sa s H) (hl : lv_has ls 8 [(0, .ref b), (1, .ref a1), (2, .ref a2), (3, .ref a3), (4, .int l4)]) : W p l e R s m #[Value.ref b] below meth c H locs cells slots Q (F0 m 964 ls []) := by
  have hx := X.1
  have hb := X.2.1
  have hown := X.2.2.2.2.1
  have hts := X.2.2.2.2.2.1
  have hbA : ¬ frm s.heap.size b := Nat.not_le.mpr hbl
  have hcs0 : cells ≤ R.cells ∧ slots ≤ R.slots := ⟨by omega, by omega⟩
  unfold jp_L_law_964 at h
  refine lv_aload_n hx hb dL_law_964 rfl (lv_at hl 1 rfl) ?_
  refine lv_aload_n hx hb dL_law_965 rfl (lv_at hl 0 rfl) ?_
  refine lv_iload hx hb dL_law_966 (lv_at hl 4 rfl) ?_
  refine lv_iconst (v := (1 : Int32)) hx hb dL_law_968 (by decide) ?_
  refine lv_iadd hx hb dL_law_969 ?_
  obtain ⟨hg_144, h⟩ := of_guard h
  refine va_sld hx hb hX hbl hbA hS (gd_in hg_144) dL_law_970 ?_
  refine lv_aload_n hx hb dL_law_971 rfl (lv_at hl 0 rfl) ?_
  refine lv_iload hx hb dL_law_972 (lv_at hl 4 rfl) ?_
  refine lv_iconst (v := (2 : Int32)) hx hb dL_law_974 (by decide) ?_
  refine lv_iadd hx hb dL_law_975 ?_
  obtain ⟨hg_145, h⟩ := of_guard h
  refine va_sld hx hb hX hbl hbA hS (gd_in hg_145) dL_law_976 ?_
  obtain ⟨q_146, hq_146, h⟩ := of_bind h
  refine cx_i (rn_V (As := [.int (xs (l4 + (1 : Int32)).toNatClampNeg), .int (xs (l4 + (2 : Int32)).toNatClampNeg)]) (rest := []) X hK hR k1 rfl (by decide) hl.1 (c_X4_foot l cA D Λ hT σ a1 (xs (l4 + (1 : Int32)).toNatClampNeg) (xs (l4 + (2 : Int32)).toNatClampNeg) k1 hq_146) (cwV 2 hts gL_law_X4_foot rfl rfl rfl (by decide +kernel) ⟨Nat.le_trans (by decide) hM.1, Nat.le_trans (by decide) hM.2⟩) rfl rfl (Nat.le_of_ble_eq_true rfl) dL_law_977 (hf := hcs0)) hS hdm hXK (fun H locs hR hS hXK => ?_)
  refine lv_aload_n hx hb dL_law_980 rfl (lv_at hl 2 rfl) ?_
  refine lv_aload_n hx hb dL_law_981 rfl (lv_at hl 0 rfl) ?_
  refine lv_iload hx hb dL_law_982 (lv_at hl 4 rfl) ?_
  refine lv_iconst (v := (1 : Int32)) hx hb dL_law_984 (by decide) ?_
  refine lv_iadd hx hb dL_law_985 ?_
  obtain ⟨hg_147, h⟩ := of_guard h
  refine va_sld hx hb hX hbl hbA hS (gd_in hg_147) dL_law_986 ?_
  refine lv_aload_n hx hb dL_law_987 rfl (lv_at hl 0 rfl) ?_
  refine lv_iload hx hb dL_law_988 (lv_at hl 4 rfl) ?_
  refine lv_iconst (v := (2 : Int32)) hx hb dL_law_990 (by decide) ?_
  refine lv_iadd hx hb dL_law_991 ?_
  obtain ⟨hg_148, h⟩ := of_guard h
  refine va_sld hx hb hX hbl hbA hS (gd_in hg_148) dL_law_992 ?_
  obtain ⟨q_149, hq_149, h⟩ := of_bind h
  refine cx_i (rn_V (As := [.int (xs (l4 + (1 : Int32)).toNatClampNeg), .int (xs (l4 + (2 : Int32)).toNatClampNeg)]) (rest := [.int q_146]) X hK hR k2 rfl (by decide) hl.1 (c_X5_foot l cA D Λ hT σ a2 (xs (l4 + (1 : Int32)).toNatClampNeg) (xs (l4 + (2 : Int32)).toNatClampNeg) k2 hq_149) (cwV 2 hts gL_law_X5_foot rfl rfl rfl (by decide +kernel) ⟨Nat.le_trans (by decide) hM.1, Nat.le_trans (by decide) hM.2⟩) rfl rfl (Nat.le_of_ble_eq_true rfl) dL_law_993 (hf := hcs0)) hS hdm hXK (fun H locs hR hS hXK => ?_)
  refine lv_icmp_eq (tgt := 1457) hx hb dL_law_996 (by decide) (fun hc => ?_) (fun hc => ?_)
  · have h := of_pos hc h
    obtain ⟨v_150, e_v_150⟩ : ∃ y : Int32, y = (l4 + (9 : Int32)) := ⟨_, rfl⟩
    have h := of_nm e_v_150 h
    refine lv_iinc (v := v_150) (lv' := [(4, .int v_150), (0, .ref b), (1, .ref a1), (2, .ref a2), (3, .ref a3)]) hx hb dL_law_1457 hl (k := 4) rfl (by rw [e_v_150]; rfl) (by decide) rfl (fun ls hl => ?_)
    refine lv_goto (tgt := 23) hx hb dL_law_1460 (by decide) ?_
    refine W.widen (k := cells + 1) (n := slots + 6) (Nat.le_succ _) (Nat.le_add_right _ _) ?_
    exact kb (v_150, q_149.2) (Option.some.inj h).symm H locs ls hR hS hXK (lv_sub hl [1, 2, 3, 4, 0] rfl)
  · have h := of_neg hc h
    cases h

set_option maxHeartbeats 4000000 in
set_option maxRecDepth 100000 in
theorem w_jp_L_law_1001 (X : Cx cL_law (some .boolean) 8 RL wsL_law p s m #[Value.ref b] meth c) (hK : Kn cA D s) (hT : TL Λ) (hM : 8 ≤ R.frames ∧ 175 ≤ R.locals) (hlt : l.stackTraces = false) (hdm : ∀ q, dm Λ q → s.heap.size ≤ q) (hX : va_X b L xs s s.heap) (hbl : b < s.heap.size) (hcs : cells + 1 ≤ R.cells ∧ slots + 6 ≤ R.slots) (a1 a2 a3 : Nat) (k1 : isK Λ a1 5) (k2 : isK Λ a2 6) (k3 : isK Λ a3 8) (l4 : Int32) (σ : Sto) {r : (Int32 × Sto) ⊕ Sto} (h : jp_L_law_1001 Λ xs L a1 a2 a3 l4 σ = some r) (kb : ∀ z : Int32 × Sto, r = .inl z → ∀ (H : Heap) (locs : List Loc) (ls : Array Slot), Rep cA D Λ z.2 H → va_S (frm s.heap.size) s.heap H locs → XK Λ sa s H → lv_has ls 8 [(0, .ref b), (1, .ref a1), (2, .ref a2), (3, .ref a3), (4, .int z.1)] → W p l e R s m #[Value.ref b] below meth c H locs (cells + 1) (slots + 6) Q (F0 m 23 ls [])) (kx : ∀ z : Sto, r = .inr z → ∀ (H : Heap) (locs : List Loc) (ls : Array Slot), Rep cA D Λ z H → va_S (frm s.heap.size) s.heap H locs → XK Λ sa s H → lv_has ls 8 [] → W p l e R s m #[Value.ref b] below meth c H locs (cells + 1) (slots + 6) Q (F0 m 1463 ls [])) (H : Heap) (locs : List Loc) (ls : Array Slot) (hR : Rep cA D Λ σ H) (hS : va_S (frm s.heap.size) s.heap H locs) (hXK : XK Λ sa s H) (hl : lv_has ls 8 [(0, .ref b), (1, .ref a1), (2, .ref a2), (3, .ref a3), (4, .int l4)]) : W p l e R s m #[Value.ref b] below meth c H locs cells slots Q (F0 m 1001 ls []) := by
  have hx := X.1
  have hb := X.2.1
  have hown := X.2.2.2.2.1
  have hts := X.2.2.2.2.2.1
  have hbA : ¬ frm s.heap.size b := Nat.not_le.mpr hbl
  have hcs0 : cells ≤ R.cells ∧ slots ≤ R.slots := ⟨by omega, by omega⟩
  unfold jp_L_law_1001 at h
  refine lv_aload_n hx hb dL_law_1001 rfl (lv_at hl 1 rfl) ?_
  refine lv_aload_n hx hb dL_law_1002 rfl (lv_at hl 0 rfl) ?_
  refine lv_iload hx hb dL_law_1003 (lv_at hl 4 rfl) ?_
  refine lv_iconst (v := (1 : Int32)) hx hb dL_law_1005 (by decide) ?_
  refine lv_iadd hx hb dL_law_1006 ?_
  obtain ⟨hg_151, h⟩ := of_guard h
  refine va_sld hx hb hX hbl hbA hS (gd_in hg_151) dL_law_1007 ?_
  refine lv_aload_n hx hb dL_law_1008 rfl (lv_at hl 0 rfl) ?_
  refine lv_iload hx hb dL_law_1009 (lv_at hl 4 rfl) ?_
  refine lv_iconst (v := (2 : Int32)) hx hb dL_law_1011 (by decide) ?_
  refine lv_iadd hx hb dL_law_1012 ?_
  obtain ⟨hg_152, h⟩ := of_guard h
  refine va_sld hx hb hX hbl hbA hS (gd_in hg_152) dL_law_1013 ?_
  refine lv_aload_n hx hb dL_law_1014 rfl (lv_at hl 0 rfl) ?_
  refine lv_iload hx hb dL_law_1015 (lv_at hl 4 rfl) ?_
  refine lv_iconst (v := (3 : Int32)) hx hb dL_law_1017 (by decide) ?_
  refine lv_iadd hx hb dL_law_1018 ?_
  obtain ⟨hg_153, h⟩ := of_guard h
  refine va_sld hx hb hX hbl hbA hS (gd_in hg_153) dL_law_1019 ?_
  obtain ⟨q_154, hq_154, h⟩ := of_bind h
  refine cx_i (rn_V (As := [.int (xs (l4 + (1 : Int32)).toNatClampNeg), .int (xs (l4 + (2 : Int32)).toNatClampNeg), .int (xs (l4 + (3 : Int32)).toNatClampNeg)]) (rest := []) X hK hR k1 rfl (by decide) hl.1 (c_X4_specks l cA D Λ hT σ a1 (xs (l4 + (1 : Int32)).toNatClampNeg) (xs (l4 + (2 : Int32)).toNatClampNeg) (xs (l4 + (3 : Int32)).toNatClampNeg) k1 hq_154) (cwV 3 hts gL_law_X4_specks rfl rfl rfl (by decide +kernel) ⟨Nat.le_trans (by decide) hM.1, Nat.le_trans (by decide) hM.2⟩) rfl rfl (Nat.le_of_ble_eq_true rfl) dL_law_1020 (hf := hcs0)) hS hdm hXK (fun H locs hR hS hXK => ?_)
  refine lv_aload_n hx hb dL_law_1023 rfl (lv_at hl 2 rfl) ?_
  refine lv_aload_n hx hb dL_law_1024 rfl (lv_at hl 0 rfl) ?_
  refine lv_iload hx hb dL_law_1025 (lv_at hl 4 rfl) ?_
  refine lv_iconst (v := (1 : Int32)) hx hb dL_law_1027 (by decide) ?_
  refine lv_iadd hx hb dL_law_1028 ?_
  obtain ⟨hg_155, h⟩ := of_guard h
  refine va_sld hx hb hX hbl hbA hS (gd_in hg_155) dL_law_1029 ?_
  refine lv_aload_n hx hb dL_law_1030 rfl (lv_at hl 0 rfl) ?_
  refine lv_iload hx hb dL_law_1031 (lv_at hl 4 rfl) ?_
  refine lv_iconst (v := (2 : Int32)) hx hb dL_law_1033 (by decide) ?_
  refine lv_iadd hx hb dL_law_1034 ?_
  obtain ⟨hg_156, h⟩ := of_guard h
  refine va_sld hx hb hX hbl hbA hS (gd_in hg_156) dL_law_1035 ?_
  refine lv_aload_n hx hb dL_law_1036 rfl (lv_at hl 0 rfl) ?_
  refine lv_iload hx hb dL_law_1037 (lv_at hl 4 rfl) ?_
  refine lv_iconst (v := (3 : Int32)) hx hb dL_law_1039 (by decide) ?_
  refine lv_iadd hx hb dL_law_1040 ?_
  obtain ⟨hg_157, h⟩ := of_guard h
  refine va_sld hx hb hX hbl hbA hS (gd_in hg_157) dL_law_1041 ?_
  obtain ⟨q_158, hq_158, h⟩ := of_bind h
  refine cx_i (rn_V (As := [.int (xs (l4 + (1 : Int32)).toNatClampNeg), .int (xs (l4 + (2 : Int32)).toNatClampNeg), .int (xs (l4 + (3 : Int32)).toNatClampNeg)]) (rest := [.int q_154.1]) X hK hR k2 rfl (by decide) hl.1 (c_X5_specks l cA D Λ hT q_154.2 a2 (xs (l4 + (1 : Int32)).toNatClampNeg) (xs (l4 + (2 : Int32)).toNatClampNeg) (xs (l4 + (3 : Int32)).toNatClampNeg) k2 hq_158) (cwV 3 hts gL_law_X5_specks rfl rfl rfl (by decide +kernel) ⟨Nat.le_trans (by decide) hM.1, Nat.le_trans (by decide) hM.2⟩) rfl rfl (Nat.le_of_ble_eq_true rfl) dL_law_1042 (hf := hcs0)) hS hdm hXK (fun H locs hR hS hXK => ?_)
  refine lv_icmp_eq (tgt := 1457) hx hb dL_law_1045 (by decide) (fun hc => ?_) (fun hc => ?_)
  · have h := of_pos hc h
    obtain ⟨v_159, e_v_159⟩ : ∃ y : Int32, y = (l4 + (9 : Int32)) := ⟨_, rfl⟩
    have h := of_nm e_v_159 h
    refine lv_iinc (v := v_159) (lv' := [(4, .int v_159), (0, .ref b), (1, .ref a1), (2, .ref a2), (3, .ref a3)]) hx hb dL_law_1457 hl (k := 4) rfl (by rw [e_v_159]; rfl) (by decide) rfl (fun ls hl => ?_)
    refine lv_goto (tgt := 23) hx hb dL_law_1460 (by decide) ?_
    refine W.widen (k := cells + 1) (n := slots + 6) (Nat.le_succ _) (Nat.le_add_right _ _) ?_
    exact kb (v_159, q_158.2) (Option.some.inj h).symm H locs ls hR hS hXK (lv_sub hl [1, 2, 3, 4, 0] rfl)
  · have h := of_neg hc h
    cases h

set_option maxHeartbeats 4000000 in
set_option maxRecDepth 100000 in
theorem w_jp_L_law_1050 (X : Cx cL_law (some .boolean) 8 RL wsL_law p s m #[Value.ref b] meth c) (hK : Kn cA D s) (hT : TL Λ) (hM : 8 ≤ R.frames ∧ 175 ≤ R.locals) (hlt : l.stackTraces = false) (hdm : ∀ q, dm Λ q → s.heap.size ≤ q) (hX : va_X b L xs s s.heap) (hbl : b < s.heap.size) (hcs : cells + 1 ≤ R.cells ∧ slots + 6 ≤ R.slots) (a1 a2 a3 : Nat) (k1 : isK Λ a1 5) (k2 : isK Λ a2 6) (k3 : isK Λ a3 8) (l4 : Int32) (σ : Sto) {r : (Int32 × Sto) ⊕ Sto} (h : jp_L_law_1050 Λ xs L a1 a2 a3 l4 σ = some r) (kb : ∀ z : Int32 × Sto, r = .inl z → ∀ (H : Heap) (locs : List Loc) (ls : Array Slot), Rep cA D Λ z.2 H → va_S (frm s.heap.size) s.heap H locs → XK Λ sa s H → lv_has ls 8 [(0, .ref b), (1, .ref a1), (2, .ref a2), (3, .ref a3), (4, .int z.1)] → W p l e R s m #[Value.ref b] below meth c H locs (cells + 1) (slots + 6) Q (F0 m 23 ls [])) (kx : ∀ z : Sto, r = .inr z → ∀ (H : Heap) (locs : List Loc) (ls : Array Slot), Rep cA D Λ z H → va_S (frm s.heap.size) s.heap H locs → XK Λ sa s H → lv_has ls 8 [] → W p l e R s m #[Value.ref b] below meth c H locs (cells + 1) (slots + 6) Q (F0 m 1463 ls [])) (H : Heap) (locs : List Loc) (ls : Array Slot) (hR : Rep cA D Λ σ H) (hS : va_S (frm s.heap.size) s.heap H locs) (hXK : XK Λ sa s H) (hl : lv_has ls 8 [(0, .ref b), (1, .ref a1), (2, .ref a2), (3, .ref a3), (4, .int l4)]) : W p l e R s m #[Value.ref b] below meth c H locs cells slots Q (F0 m 1050 ls []) := by
  have hx := X.1
  have hb := X.2.1
  have hown := X.2.2.2.2.1
  have hts := X.2.2.2.2.2.1
  have hbA : ¬ frm s.heap.size b := Nat.not_le.mpr hbl
  have hcs0 : cells ≤ R.cells ∧ slots ≤ R.slots := ⟨by omega, by omega⟩
  unfold jp_L_law_1050 at h
  refine lv_aload_n hx hb dL_law_1050 rfl (lv_at hl 1 rfl) ?_
  refine lv_aload_n hx hb dL_law_1051 rfl (lv_at hl 0 rfl) ?_
  refine lv_iload hx hb dL_law_1052 (lv_at hl 4 rfl) ?_
  refine lv_iconst (v := (1 : Int32)) hx hb dL_law_1054 (by decide) ?_
  refine lv_iadd hx hb dL_law_1055 ?_
  obtain ⟨hg_160, h⟩ := of_guard h
  refine va_sld hx hb hX hbl hbA hS (gd_in hg_160) dL_law_1056 ?_
  refine lv_aload_n hx hb dL_law_1057 rfl (lv_at hl 0 rfl) ?_
  refine lv_iload hx hb dL_law_1058 (lv_at hl 4 rfl) ?_
  refine lv_iconst (v := (2 : Int32)) hx hb dL_law_1060 (by decide) ?_
  refine lv_iadd hx hb dL_law_1061 ?_
  obtain ⟨hg_161, h⟩ := of_guard h
  refine va_sld hx hb hX hbl hbA hS (gd_in hg_161) dL_law_1062 ?_
  refine lv_aload_n hx hb dL_law_1063 rfl (lv_at hl 0 rfl) ?_
  refine lv_iload hx hb dL_law_1064 (lv_at hl 4 rfl) ?_
  refine lv_iconst (v := (3 : Int32)) hx hb dL_law_1066 (by decide) ?_
  refine lv_iadd hx hb dL_law_1067 ?_
  obtain ⟨hg_162, h⟩ := of_guard h
  refine va_sld hx hb hX hbl hbA hS (gd_in hg_162) dL_law_1068 ?_
  obtain ⟨q_163, hq_163, h⟩ := of_bind h
  refine cx_i (rn_V (As := [.int (xs (l4 + (1 : Int32)).toNatClampNeg), .int (xs (l4 + (2 : Int32)).toNatClampNeg), .int (xs (l4 + (3 : Int32)).toNatClampNeg)]) (rest := []) X hK hR k1 rfl (by decide) hl.1 (c_X4_take l cA D Λ hT σ a1 (xs (l4 + (1 : Int32)).toNatClampNeg) (xs (l4 + (2 : Int32)).toNatClampNeg) (xs (l4 + (3 : Int32)).toNatClampNeg) k1 hq_163) (cwV 3 hts gL_law_X4_take rfl rfl rfl (by decide +kernel) ⟨Nat.le_trans (by decide) hM.1, Nat.le_trans (by decide) hM.2⟩) rfl rfl (Nat.le_of_ble_eq_true rfl) dL_law_1069 (hf := hcs0)) hS hdm hXK (fun H locs hR hS hXK => ?_)
  refine lv_aload_n hx hb dL_law_1072 rfl (lv_at hl 2 rfl) ?_
  refine lv_aload_n hx hb dL_law_1073 rfl (lv_at hl 0 rfl) ?_
  refine lv_iload hx hb dL_law_1074 (lv_at hl 4 rfl) ?_
  refine lv_iconst (v := (1 : Int32)) hx hb dL_law_1076 (by decide) ?_
  refine lv_iadd hx hb dL_law_1077 ?_
  obtain ⟨hg_164, h⟩ := of_guard h
  refine va_sld hx hb hX hbl hbA hS (gd_in hg_164) dL_law_1078 ?_
  refine lv_aload_n hx hb dL_law_1079 rfl (lv_at hl 0 rfl) ?_
  refine lv_iload hx hb dL_law_1080 (lv_at hl 4 rfl) ?_
  refine lv_iconst (v := (2 : Int32)) hx hb dL_law_1082 (by decide) ?_
  refine lv_iadd hx hb dL_law_1083 ?_
  obtain ⟨hg_165, h⟩ := of_guard h
  refine va_sld hx hb hX hbl hbA hS (gd_in hg_165) dL_law_1084 ?_
  refine lv_aload_n hx hb dL_law_1085 rfl (lv_at hl 0 rfl) ?_
  refine lv_iload hx hb dL_law_1086 (lv_at hl 4 rfl) ?_
  refine lv_iconst (v := (3 : Int32)) hx hb dL_law_1088 (by decide) ?_
  refine lv_iadd hx hb dL_law_1089 ?_
  obtain ⟨hg_166, h⟩ := of_guard h
  refine va_sld hx hb hX hbl hbA hS (gd_in hg_166) dL_law_1090 ?_
  obtain ⟨q_167, hq_167, h⟩ := of_bind h
  refine cx_i (rn_V (As := [.int (xs (l4 + (1 : Int32)).toNatClampNeg), .int (xs (l4 + (2 : Int32)).toNatClampNeg), .int (xs (l4 + (3 : Int32)).toNatClampNeg)]) (rest := [.int q_163.1]) X hK hR k2 rfl (by decide) hl.1 (c_X5_take l cA D Λ hT q_163.2 a2 (xs (l4 + (1 : Int32)).toNatClampNeg) (xs (l4 + (2 : Int32)).toNatClampNeg) (xs (l4 + (3 : Int32)).toNatClampNeg) k2 hq_167) (cwV 3 hts gL_law_X5_take rfl rfl rfl (by decide +kernel) ⟨Nat.le_trans (by decide) hM.1, Nat.le_trans (by decide) hM.2⟩) rfl rfl (Nat.le_of_ble_eq_true rfl) dL_law_1091 (hf := hcs0)) hS hdm hXK (fun H locs hR hS hXK => ?_)
  refine lv_icmp_eq (tgt := 1457) hx hb dL_law_1094 (by decide) (fun hc => ?_) (fun hc => ?_)
  · have h := of_pos hc h
    obtain ⟨v_168, e_v_168⟩ : ∃ y : Int32, y = (l4 + (9 : Int32)) := ⟨_, rfl⟩
    have h := of_nm e_v_168 h
    refine lv_iinc (v := v_168) (lv' := [(4, .int v_168), (0, .ref b), (1, .ref a1), (2, .ref a2), (3, .ref a3)]) hx hb dL_law_1457 hl (k := 4) rfl (by rw [e_v_168]; rfl) (by decide) rfl (fun ls hl => ?_)
    refine lv_goto (tgt := 23) hx hb dL_law_1460 (by decide) ?_
    refine W.widen (k := cells + 1) (n := slots + 6) (Nat.le_succ _) (Nat.le_add_right _ _) ?_
    exact kb (v_168, q_167.2) (Option.some.inj h).symm H locs ls hR hS hXK (lv_sub hl [1, 2, 3, 4, 0] rfl)
  · have h := of_neg hc h
    cases h

set_option maxHeartbeats 4000000 in
set_option maxRecDepth 100000 in
theorem w_jp_L_law_1099 (X : Cx cL_law (some .boolean) 8 RL wsL_law p s m #[Value.ref b] meth c) (hK : Kn cA D s) (hT : TL Λ) (hM : 8 ≤ R.frames ∧ 175 ≤ R.locals) (hlt : l.stackTraces = false) (hdm : ∀ q, dm Λ q → s.heap.size ≤ q) (hX : va_X b L xs s s.heap) (hbl : b < s.heap.size) (hcs : cells + 1 ≤ R.cells ∧ slots + 6 ≤ R.slots) (a1 a2 a3 : Nat) (k1 : isK Λ a1 5) (k2 : isK Λ a2 6) (k3 : isK Λ a3 8) (l4 : Int32) (σ : Sto) {r : (Int32 × Sto) ⊕ Sto} (h : jp_L_law_1099 Λ xs L a1 a2 a3 l4 σ = some r) (kb : ∀ z : Int32 × Sto, r = .inl z → ∀ (H : Heap) (locs : List Loc) (ls : Array Slot), Rep cA D Λ z.2 H → va_S (frm s.heap.size) s.heap H locs → XK Λ sa s H → lv_has ls 8 [(0, .ref b), (1, .ref a1), (2, .ref a2), (3, .ref a3), (4, .int z.1)] → W p l e R s m #[Value.ref b] below meth c H locs (cells + 1) (slots + 6) Q (F0 m 23 ls [])) (kx : ∀ z : Sto, r = .inr z → ∀ (H : Heap) (locs : List Loc) (ls : Array Slot), Rep cA D Λ z H → va_S (frm s.heap.size) s.heap H locs → XK Λ sa s H → lv_has ls 8 [] → W p l e R s m #[Value.ref b] below meth c H locs (cells + 1) (slots + 6) Q (F0 m 1463 ls [])) (H : Heap) (locs : List Loc) (ls : Array Slot) (hR : Rep cA D Λ σ H) (hS : va_S (frm s.heap.size) s.heap H locs) (hXK : XK Λ sa s H) (hl : lv_has ls 8 [(0, .ref b), (1, .ref a1), (2, .ref a2), (3, .ref a3), (4, .int l4)]) : W p l e R s m #[Value.ref b] below meth c H locs cells slots Q (F0 m 1099 ls []) := by
  have hx := X.1
  have hb := X.2.1
  have hown := X.2.2.2.2.1
  have hts := X.2.2.2.2.2.1
  have hbA : ¬ frm s.heap.size b := Nat.not_le.mpr hbl
  have hcs0 : cells ≤ R.cells ∧ slots ≤ R.slots := ⟨by omega, by omega⟩
  unfold jp_L_law_1099 at h
  refine lv_aload_n hx hb dL_law_1099 rfl (lv_at hl 1 rfl) ?_
  refine lv_aload_n hx hb dL_law_1100 rfl (lv_at hl 0 rfl) ?_
  refine lv_iload hx hb dL_law_1101 (lv_at hl 4 rfl) ?_
  refine lv_iconst (v := (1 : Int32)) hx hb dL_law_1103 (by decide) ?_
  refine lv_iadd hx hb dL_law_1104 ?_
  obtain ⟨hg_169, h⟩ := of_guard h
  refine va_sld hx hb hX hbl hbA hS (gd_in hg_169) dL_law_1105 ?_
  refine lv_aload_n hx hb dL_law_1106 rfl (lv_at hl 0 rfl) ?_
  refine lv_iload hx hb dL_law_1107 (lv_at hl 4 rfl) ?_
  refine lv_iconst (v := (2 : Int32)) hx hb dL_law_1109 (by decide) ?_
  refine lv_iadd hx hb dL_law_1110 ?_
  obtain ⟨hg_170, h⟩ := of_guard h
  refine va_sld hx hb hX hbl hbA hS (gd_in hg_170) dL_law_1111 ?_
  obtain ⟨q_171, hq_171, h⟩ := of_bind h
  refine cx_i (rn_V (As := [.int (xs (l4 + (1 : Int32)).toNatClampNeg), .int (xs (l4 + (2 : Int32)).toNatClampNeg)]) (rest := []) X hK hR k1 rfl (by decide) hl.1 (c_X4_shadow l cA D Λ hT σ a1 (xs (l4 + (1 : Int32)).toNatClampNeg) (xs (l4 + (2 : Int32)).toNatClampNeg) k1 hq_171) (cwV 2 hts gL_law_X4_shadow rfl rfl rfl (by decide +kernel) ⟨Nat.le_trans (by decide) hM.1, Nat.le_trans (by decide) hM.2⟩) rfl rfl (Nat.le_of_ble_eq_true rfl) dL_law_1112 (hf := hcs0)) hS hdm hXK (fun H locs hR hS hXK => ?_)
  refine lv_aload_n hx hb dL_law_1115 rfl (lv_at hl 2 rfl) ?_
  refine lv_aload_n hx hb dL_law_1116 rfl (lv_at hl 0 rfl) ?_
  refine lv_iload hx hb dL_law_1117 (lv_at hl 4 rfl) ?_
  refine lv_iconst (v := (1 : Int32)) hx hb dL_law_1119 (by decide) ?_
  refine lv_iadd hx hb dL_law_1120 ?_
  obtain ⟨hg_172, h⟩ := of_guard h
  refine va_sld hx hb hX hbl hbA hS (gd_in hg_172) dL_law_1121 ?_
  refine lv_aload_n hx hb dL_law_1122 rfl (lv_at hl 0 rfl) ?_
  refine lv_iload hx hb dL_law_1123 (lv_at hl 4 rfl) ?_
  refine lv_iconst (v := (2 : Int32)) hx hb dL_law_1125 (by decide) ?_
  refine lv_iadd hx hb dL_law_1126 ?_
  obtain ⟨hg_173, h⟩ := of_guard h
  refine va_sld hx hb hX hbl hbA hS (gd_in hg_173) dL_law_1127 ?_
  obtain ⟨q_174, hq_174, h⟩ := of_bind h
  refine cx_i (rn_V (As := [.int (xs (l4 + (1 : Int32)).toNatClampNeg), .int (xs (l4 + (2 : Int32)).toNatClampNeg)]) (rest := [.int q_171.1]) X hK hR k2 rfl (by decide) hl.1 (c_X5_shadow l cA D Λ hT q_171.2 a2 (xs (l4 + (1 : Int32)).toNatClampNeg) (xs (l4 + (2 : Int32)).toNatClampNeg) k2 hq_174) (cwV 2 hts gL_law_X5_shadow rfl rfl rfl (by decide +kernel) ⟨Nat.le_trans (by decide) hM.1, Nat.le_trans (by decide) hM.2⟩) rfl rfl (Nat.le_of_ble_eq_true rfl) dL_law_1128 (hf := hcs0)) hS hdm hXK (fun H locs hR hS hXK => ?_)
  refine lv_icmp_eq (tgt := 1457) hx hb dL_law_1131 (by decide) (fun hc => ?_) (fun hc => ?_)
  · have h := of_pos hc h
    obtain ⟨v_175, e_v_175⟩ : ∃ y : Int32, y = (l4 + (9 : Int32)) := ⟨_, rfl⟩
    have h := of_nm e_v_175 h
    refine lv_iinc (v := v_175) (lv' := [(4, .int v_175), (0, .ref b), (1, .ref a1), (2, .ref a2), (3, .ref a3)]) hx hb dL_law_1457 hl (k := 4) rfl (by rw [e_v_175]; rfl) (by decide) rfl (fun ls hl => ?_)
    refine lv_goto (tgt := 23) hx hb dL_law_1460 (by decide) ?_
    refine W.widen (k := cells + 1) (n := slots + 6) (Nat.le_succ _) (Nat.le_add_right _ _) ?_
    exact kb (v_175, q_174.2) (Option.some.inj h).symm H locs ls hR hS hXK (lv_sub hl [1, 2, 3, 4, 0] rfl)
  · have h := of_neg hc h
    cases h

set_option maxHeartbeats 4000000 in
set_option maxRecDepth 100000 in
theorem w_jp_L_law_1136 (X : Cx cL_law (some .boolean) 8 RL wsL_law p s m #[Value.ref b] meth c) (hK : Kn cA D s) (hT : TL Λ) (hM : 8 ≤ R.frames ∧ 175 ≤ R.locals) (hlt : l.stackTraces = false) (hdm : ∀ q, dm Λ q → s.heap.size ≤ q) (hX : va_X b L xs s s.heap) (hbl : b < s.heap.size) (hcs : cells + 1 ≤ R.cells ∧ slots + 6 ≤ R.slots) (a1 a2 a3 : Nat) (k1 : isK Λ a1 5) (k2 : isK Λ a2 6) (k3 : isK Λ a3 8) (l4 : Int32) (σ : Sto) {r : (Int32 × Sto) ⊕ Sto} (h : jp_L_law_1136 Λ xs L a1 a2 a3 l4 σ = some r) (kb : ∀ z : Int32 × Sto, r = .inl z → ∀ (H : Heap) (locs : List Loc) (ls : Array Slot), Rep cA D Λ z.2 H → va_S (frm s.heap.size) s.heap H locs → XK Λ sa s H → lv_has ls 8 [(0, .ref b), (1, .ref a1), (2, .ref a2), (3, .ref a3), (4, .int z.1)] → W p l e R s m #[Value.ref b] below meth c H locs (cells + 1) (slots + 6) Q (F0 m 23 ls [])) (kx : ∀ z : Sto, r = .inr z → ∀ (H : Heap) (locs : List Loc) (ls : Array Slot), Rep cA D Λ z H → va_S (frm s.heap.size) s.heap H locs → XK Λ sa s H → lv_has ls 8 [] → W p l e R s m #[Value.ref b] below meth c H locs (cells + 1) (slots + 6) Q (F0 m 1463 ls [])) (H : Heap) (locs : List Loc) (ls : Array Slot) (hR : Rep cA D Λ σ H) (hS : va_S (frm s.heap.size) s.heap H locs) (hXK : XK Λ sa s H) (hl : lv_has ls 8 [(0, .ref b), (1, .ref a1), (2, .ref a2), (3, .ref a3), (4, .int l4)]) : W p l e R s m #[Value.ref b] below meth c H locs cells slots Q (F0 m 1136 ls []) := by
  have hx := X.1
  have hb := X.2.1
  have hown := X.2.2.2.2.1
  have hts := X.2.2.2.2.2.1
  have hbA : ¬ frm s.heap.size b := Nat.not_le.mpr hbl
  have hcs0 : cells ≤ R.cells ∧ slots ≤ R.slots := ⟨by omega, by omega⟩
  unfold jp_L_law_1136 at h
  refine lv_aload_n hx hb dL_law_1136 rfl (lv_at hl 1 rfl) ?_
  refine lv_aload_n hx hb dL_law_1137 rfl (lv_at hl 0 rfl) ?_
  refine lv_iload hx hb dL_law_1138 (lv_at hl 4 rfl) ?_
  refine lv_iconst (v := (1 : Int32)) hx hb dL_law_1140 (by decide) ?_
  refine lv_iadd hx hb dL_law_1141 ?_
  obtain ⟨hg_176, h⟩ := of_guard h
  refine va_sld hx hb hX hbl hbA hS (gd_in hg_176) dL_law_1142 ?_
  refine lv_aload_n hx hb dL_law_1143 rfl (lv_at hl 0 rfl) ?_
  refine lv_iload hx hb dL_law_1144 (lv_at hl 4 rfl) ?_
  refine lv_iconst (v := (2 : Int32)) hx hb dL_law_1146 (by decide) ?_
  refine lv_iadd hx hb dL_law_1147 ?_
  obtain ⟨hg_177, h⟩ := of_guard h
  refine va_sld hx hb hX hbl hbA hS (gd_in hg_177) dL_law_1148 ?_
  refine lv_aload_n hx hb dL_law_1149 rfl (lv_at hl 3 rfl) ?_
  obtain ⟨q_178, hq_178, h⟩ := of_bind h
  refine cx_h (vx_runSW (As := [.ref a1, .int (xs (l4 + (1 : Int32)).toNatClampNeg), .int (xs (l4 + (2 : Int32)).toNatClampNeg), .ref a3]) (rest := []) (Ts := wsL_law) ⟨X.1, X.2.1, X.2.2.2.1, X.2.2.2.2.1, X.2.2.2.2.2.1⟩ (c_L_listed l hlt cA D Λ hT sa σ a1 (xs (l4 + (1 : Int32)).toNatClampNeg) (xs (l4 + (2 : Int32)).toNatClampNeg) a3 k1 k3 hq_178) (vx_cwSW 4 hts gL_law_L_listed rfl rfl rfl (by decide +kernel) ⟨Nat.le_trans (by decide) hM.1, Nat.le_trans (by decide) hM.2⟩) ⟨PX.blind, fun U hU hW1 => ⟨rfl, ⟨by rw [hU]; exact hR, hK.warm hW1⟩, by rw [hU]; exact hXK.warm hW1⟩⟩ rfl rfl hl.1 rfl (lv_room (Nat.le_of_ble_eq_true rfl)) dL_law_1150 hcs) hS hdm hXK (fun H locs hR hS hXK => ?_)
  refine lv_istore (lv' := [(5, .int q_178.1), (0, .ref b), (1, .ref a1), (2, .ref a2), (3, .ref a3), (4, .int l4)]) hx hb dL_law_1153 hl (by decide) rfl (fun ls hl => ?_)
  refine lv_aload_n hx hb dL_law_1155 rfl (lv_at hl 3 rfl) ?_
  refine lv_aload_n hx hb dL_law_1156 rfl (lv_at hl 1 rfl) ?_
  refine lv_iload hx hb dL_law_1157 (lv_at hl 5 rfl) ?_
  refine lv_iconst (v := (1 : Int32)) hx hb dL_law_1159 (by decide) ?_
  refine lv_iadd hx hb dL_law_1160 ?_
  obtain ⟨hg_179, h⟩ := of_guard h
  refine va_sld hx hb hX hbl hbA hS (gd_in hg_179) dL_law_1161 ?_
  refine lv_aload_n hx hb dL_law_1162 rfl (lv_at hl 1 rfl) ?_
  refine lv_iload hx hb dL_law_1163 (lv_at hl 5 rfl) ?_
  refine lv_iconst (v := (2 : Int32)) hx hb dL_law_1165 (by decide) ?_
  refine lv_iadd hx hb dL_law_1166 ?_
  obtain ⟨hg_180, h⟩ := of_guard h
  refine va_sld hx hb hX hbl hbA hS (gd_in hg_180) dL_law_1167 ?_
  obtain ⟨q_181, hq_181, h⟩ := of_bind h
  refine cx_i (rn_V (As := [.int (xs (l4 + (1 : Int32)).toNatClampNeg), .int (xs (l4 + (2 : Int32)).toNatClampNeg)]) (rest := []) X hK hR k2 rfl (by decide) hl.1 (c_X5_listed l cA D Λ hT q_178.2 a2 (xs (l4 + (1 : Int32)).toNatClampNeg) (xs (l4 + (2 : Int32)).toNatClampNeg) k2 hq_181) (cwV 2 hts gL_law_X5_listed rfl rfl rfl (by decide +kernel) ⟨Nat.le_trans (by decide) hM.1, Nat.le_trans (by decide) hM.2⟩) rfl rfl (Nat.le_of_ble_eq_true rfl) dL_law_1168 (hf := ⟨by omega, by omega⟩)) hS hdm hXK (fun H locs hR hS hXK => ?_)
  refine lv_istore (lv' := [(6, .int q_181.1), (5, .int q_178.1), (0, .ref b), (1, .ref a1), (2, .ref a2), (3, .ref a3), (4, .int l4)]) hx hb dL_law_1171 hl (by decide) rfl (fun ls hl => ?_)
  refine lv_aload_n hx hb dL_law_1173 rfl (lv_at hl 4 rfl) ?_
  refine cx_i (rn_V (As := []) (rest := []) X hK hR k2 rfl (by decide) hl.1 (c_X5_thrown l cA D Λ hT q_181.2 a2 k2) (cwV 0 hts gL_law_X5_thrown rfl rfl rfl (by decide +kernel) ⟨Nat.le_trans (by decide) hM.1, Nat.le_trans (by decide) hM.2⟩) rfl rfl (Nat.le_of_ble_eq_true rfl) dL_law_1174 (hf := ⟨by omega, by omega⟩)) hS hdm hXK (fun H locs hR hS hXK => ?_)
  refine lv_topi (fun r_182 e_182 => ?_)
  have h := of_nm e_182 h
  refine lv_iload hx hb dL_law_1177 (lv_at hl 1 rfl) ?_
  refine lv_icmp_eq (tgt := 1184) hx hb dL_law_1179 (by decide) (fun hc => ?_) (fun hc => ?_)
  · have h := of_pos hc h
    refine lv_iload hx hb dL_law_1184 (lv_at hl 1 rfl) ?_
    refine lv_if_ne (tgt := 1201) hx hb dL_law_1186 (by decide) (fun hc => ?_) (fun hc => ?_)
    · have h := of_neg hc h
      refine lv_goto (tgt := 1457) hx hb dL_law_1201 (by decide) ?_
      obtain ⟨v_183, e_v_183⟩ : ∃ y : Int32, y = (l4 + (9 : Int32)) := ⟨_, rfl⟩
      have h := of_nm e_v_183 h
      refine lv_iinc (v := v_183) (lv' := [(4, .int v_183), (6, .int q_181.1), (5, .int q_178.1), (0, .ref b), (1, .ref a1), (2, .ref a2), (3, .ref a3)]) hx hb dL_law_1457 hl (k := 6) rfl (by rw [e_v_183]; rfl) (by decide) rfl (fun ls hl => ?_)
      refine lv_goto (tgt := 23) hx hb dL_law_1460 (by decide) ?_
      exact kb (v_183, q_181.2) (Option.some.inj h).symm H locs ls hR hS hXK (lv_sub hl [3, 4, 5, 6, 0] rfl)
    · have h := of_pos hc h
      refine lv_aload_n hx hb dL_law_1189 rfl (lv_at hl 5 rfl) ?_
      refine lv_iconst (v := (0 : Int32)) hx hb dL_law_1190 (by decide) ?_
      obtain ⟨hg_184, h⟩ := of_guard h
      refine rw_lald X hK hR k3 hg_184 dL_law_1191 ?_
      refine lv_iload hx hb dL_law_1192 (lv_at hl 0 rfl) ?_
      refine lv_i2l (v := (q_181.1.toInt64)) hx hb dL_law_1194 rfl ?_
      refine W.lcmp hx hb dL_law_1195 ?_
      refine lv_if_eq (tgt := 1201) hx hb dL_law_1196 (by decide) (fun hc => ?_) (fun hc => ?_)
      · have h := of_pos hc h
        refine lv_goto (tgt := 1457) hx hb dL_law_1201 (by decide) ?_
        obtain ⟨v_185, e_v_185⟩ : ∃ y : Int32, y = (l4 + (9 : Int32)) := ⟨_, rfl⟩
        have h := of_nm e_v_185 h
        refine lv_iinc (v := v_185) (lv' := [(4, .int v_185), (6, .int q_181.1), (5, .int q_178.1), (0, .ref b), (1, .ref a1), (2, .ref a2), (3, .ref a3)]) hx hb dL_law_1457 hl (k := 6) rfl (by rw [e_v_185]; rfl) (by decide) rfl (fun ls hl => ?_)
        refine lv_goto (tgt := 23) hx hb dL_law_1460 (by decide) ?_
        exact kb (v_185, q_181.2) (Option.some.inj h).symm H locs ls hR hS hXK (lv_sub hl [3, 4, 5, 6, 0] rfl)
      · have h := of_neg hc h
        cases h
  · have h := of_neg hc h
    cases h

set_option maxHeartbeats 4000000 in
set_option maxRecDepth 100000 in
theorem w_jp_L_law_1204 (X : Cx cL_law (some .boolean) 8 RL wsL_law p s m #[Value.ref b] meth c) (hK : Kn cA D s) (hT : TL Λ) (hM : 8 ≤ R.frames ∧ 175 ≤ R.locals) (hlt : l.stackTraces = false) (hdm : ∀ q, dm Λ q → s.heap.size ≤ q) (hX : va_X b L xs s s.heap) (hbl : b < s.heap.size) (hcs : cells + 1 ≤ R.cells ∧ slots + 6 ≤ R.slots) (a1 a2 a3 : Nat) (k1 : isK Λ a1 5) (k2 : isK Λ a2 6) (k3 : isK Λ a3 8) (l4 : Int32) (σ : Sto) {r : (Int32 × Sto) ⊕ Sto} (h : jp_L_law_1204 Λ xs L a1 a2 a3 l4 σ = some r) (kb : ∀ z : Int32 × Sto, r = .inl z → ∀ (H : Heap) (locs : List Loc) (ls : Array Slot), Rep cA D Λ z.2 H → va_S (frm s.heap.size) s.heap H locs → XK Λ sa s H → lv_has ls 8 [(0, .ref b), (1, .ref a1), (2, .ref a2), (3, .ref a3), (4, .int z.1)] → W p l e R s m #[Value.ref b] below meth c H locs (cells + 1) (slots + 6) Q (F0 m 23 ls [])) (kx : ∀ z : Sto, r = .inr z → ∀ (H : Heap) (locs : List Loc) (ls : Array Slot), Rep cA D Λ z H → va_S (frm s.heap.size) s.heap H locs → XK Λ sa s H → lv_has ls 8 [] → W p l e R s m #[Value.ref b] below meth c H locs (cells + 1) (slots + 6) Q (F0 m 1463 ls [])) (H : Heap) (locs : List Loc) (ls : Array Slot) (hR : Rep cA D Λ σ H) (hS : va_S (frm s.heap.size) s.heap H locs) (hXK : XK Λ sa s H) (hl : lv_has ls 8 [(0, .ref b), (1, .ref a1), (2, .ref a2), (3, .ref a3), (4, .int l4)]) : W p l e R s m #[Value.ref b] below meth c H locs cells slots Q (F0 m 1204 ls []) := by
  have hx := X.1
  have hb := X.2.1
  have hown := X.2.2.2.2.1
  have hts := X.2.2.2.2.2.1
  have hbA : ¬ frm s.heap.size b := Nat.not_le.mpr hbl
  have hcs0 : cells ≤ R.cells ∧ slots ≤ R.slots := ⟨by omega, by omega⟩
  unfold jp_L_law_1204 at h
  refine lv_aload_n hx hb dL_law_1204 rfl (lv_at hl 1 rfl) ?_
  refine lv_aload_n hx hb dL_law_1205 rfl (lv_at hl 0 rfl) ?_
  refine lv_iload hx hb dL_law_1206 (lv_at hl 4 rfl) ?_
  refine lv_iconst (v := (1 : Int32)) hx hb dL_law_1208 (by decide) ?_
  refine lv_iadd hx hb dL_law_1209 ?_
  obtain ⟨hg_186, h⟩ := of_guard h
  refine va_sld hx hb hX hbl hbA hS (gd_in hg_186) dL_law_1210 ?_
  refine lv_aload_n hx hb dL_law_1211 rfl (lv_at hl 0 rfl) ?_
  refine lv_iload hx hb dL_law_1212 (lv_at hl 4 rfl) ?_
  refine lv_iconst (v := (2 : Int32)) hx hb dL_law_1214 (by decide) ?_
  refine lv_iadd hx hb dL_law_1215 ?_
  obtain ⟨hg_187, h⟩ := of_guard h
  refine va_sld hx hb hX hbl hbA hS (gd_in hg_187) dL_law_1216 ?_
  obtain ⟨q_188, hq_188, h⟩ := of_bind h
  refine cx_i (rn_V (As := [.int (xs (l4 + (1 : Int32)).toNatClampNeg), .int (xs (l4 + (2 : Int32)).toNatClampNeg)]) (rest := []) X hK hR k1 rfl (by decide) hl.1 (c_X4_box l cA D Λ hT σ a1 (xs (l4 + (1 : Int32)).toNatClampNeg) (xs (l4 + (2 : Int32)).toNatClampNeg) k1 hq_188) (cwV 2 hts gL_law_X4_box rfl rfl rfl (by decide +kernel) ⟨Nat.le_trans (by decide) hM.1, Nat.le_trans (by decide) hM.2⟩) rfl rfl (Nat.le_of_ble_eq_true rfl) dL_law_1217 (hf := hcs0)) hS hdm hXK (fun H locs hR hS hXK => ?_)
  refine lv_aload_n hx hb dL_law_1220 rfl (lv_at hl 2 rfl) ?_
  refine lv_aload_n hx hb dL_law_1221 rfl (lv_at hl 0 rfl) ?_
  refine lv_iload hx hb dL_law_1222 (lv_at hl 4 rfl) ?_
  refine lv_iconst (v := (1 : Int32)) hx hb dL_law_1224 (by decide) ?_
  refine lv_iadd hx hb dL_law_1225 ?_
  obtain ⟨hg_189, h⟩ := of_guard h
  refine va_sld hx hb hX hbl hbA hS (gd_in hg_189) dL_law_1226 ?_
  refine lv_aload_n hx hb dL_law_1227 rfl (lv_at hl 0 rfl) ?_
  refine lv_iload hx hb dL_law_1228 (lv_at hl 4 rfl) ?_
  refine lv_iconst (v := (2 : Int32)) hx hb dL_law_1230 (by decide) ?_
  refine lv_iadd hx hb dL_law_1231 ?_
  obtain ⟨hg_190, h⟩ := of_guard h
  refine va_sld hx hb hX hbl hbA hS (gd_in hg_190) dL_law_1232 ?_
  obtain ⟨q_191, hq_191, h⟩ := of_bind h
  refine cx_i (rn_V (As := [.int (xs (l4 + (1 : Int32)).toNatClampNeg), .int (xs (l4 + (2 : Int32)).toNatClampNeg)]) (rest := [.int q_188]) X hK hR k2 rfl (by decide) hl.1 (c_X5_box l cA D Λ hT σ a2 (xs (l4 + (1 : Int32)).toNatClampNeg) (xs (l4 + (2 : Int32)).toNatClampNeg) k2 hq_191) (cwV 2 hts gL_law_X5_box rfl rfl rfl (by decide +kernel) ⟨Nat.le_trans (by decide) hM.1, Nat.le_trans (by decide) hM.2⟩) rfl rfl (Nat.le_of_ble_eq_true rfl) dL_law_1233 (hf := hcs0)) hS hdm hXK (fun H locs hR hS hXK => ?_)
  refine lv_icmp_eq (tgt := 1457) hx hb dL_law_1236 (by decide) (fun hc => ?_) (fun hc => ?_)
  · have h := of_pos hc h
    obtain ⟨v_192, e_v_192⟩ : ∃ y : Int32, y = (l4 + (9 : Int32)) := ⟨_, rfl⟩
    have h := of_nm e_v_192 h
    refine lv_iinc (v := v_192) (lv' := [(4, .int v_192), (0, .ref b), (1, .ref a1), (2, .ref a2), (3, .ref a3)]) hx hb dL_law_1457 hl (k := 4) rfl (by rw [e_v_192]; rfl) (by decide) rfl (fun ls hl => ?_)
    refine lv_goto (tgt := 23) hx hb dL_law_1460 (by decide) ?_
    refine W.widen (k := cells + 1) (n := slots + 6) (Nat.le_succ _) (Nat.le_add_right _ _) ?_
    exact kb (v_192, q_191.2) (Option.some.inj h).symm H locs ls hR hS hXK (lv_sub hl [1, 2, 3, 4, 0] rfl)
  · have h := of_neg hc h
    cases h

set_option maxHeartbeats 4000000 in
set_option maxRecDepth 100000 in
theorem w_jp_L_law_1241 (X : Cx cL_law (some .boolean) 8 RL wsL_law p s m #[Value.ref b] meth c) (hK : Kn cA D s) (hT : TL Λ) (hM : 8 ≤ R.frames ∧ 175 ≤ R.locals) (hlt : l.stackTraces = false) (hdm : ∀ q, dm Λ q → s.heap.size ≤ q) (hX : va_X b L xs s s.heap) (hbl : b < s.heap.size) (hcs : cells + 1 ≤ R.cells ∧ slots + 6 ≤ R.slots) (a1 a2 a3 : Nat) (k1 : isK Λ a1 5) (k2 : isK Λ a2 6) (k3 : isK Λ a3 8) (l4 : Int32) (σ : Sto) {r : (Int32 × Sto) ⊕ Sto} (h : jp_L_law_1241 Λ xs L a1 a2 a3 l4 σ = some r) (kb : ∀ z : Int32 × Sto, r = .inl z → ∀ (H : Heap) (locs : List Loc) (ls : Array Slot), Rep cA D Λ z.2 H → va_S (frm s.heap.size) s.heap H locs → XK Λ sa s H → lv_has ls 8 [(0, .ref b), (1, .ref a1), (2, .ref a2), (3, .ref a3), (4, .int z.1)] → W p l e R s m #[Value.ref b] below meth c H locs (cells + 1) (slots + 6) Q (F0 m 23 ls [])) (kx : ∀ z : Sto, r = .inr z → ∀ (H : Heap) (locs : List Loc) (ls : Array Slot), Rep cA D Λ z H → va_S (frm s.heap.size) s.heap H locs → XK Λ sa s H → lv_has ls 8 [] → W p l e R s m #[Value.ref b] below meth c H locs (cells + 1) (slots + 6) Q (F0 m 1463 ls [])) (H : Heap) (locs : List Loc) (ls : Array Slot) (hR : Rep cA D Λ σ H) (hS : va_S (frm s.heap.size) s.heap H locs) (hXK : XK Λ sa s H) (hl : lv_has ls 8 [(0, .ref b), (1, .ref a1), (2, .ref a2), (3, .ref a3), (4, .int l4)]) : W p l e R s m #[Value.ref b] below meth c H locs cells slots Q (F0 m 1241 ls []) := by
  have hx := X.1
  have hb := X.2.1
  have hown := X.2.2.2.2.1
  have hts := X.2.2.2.2.2.1
  have hbA : ¬ frm s.heap.size b := Nat.not_le.mpr hbl
  have hcs0 : cells ≤ R.cells ∧ slots ≤ R.slots := ⟨by omega, by omega⟩
  unfold jp_L_law_1241 at h
  refine lv_aload_n hx hb dL_law_1241 rfl (lv_at hl 1 rfl) ?_
  refine lv_aload_n hx hb dL_law_1242 rfl (lv_at hl 0 rfl) ?_
  refine lv_iload hx hb dL_law_1243 (lv_at hl 4 rfl) ?_
  refine lv_iconst (v := (1 : Int32)) hx hb dL_law_1245 (by decide) ?_
  refine lv_iadd hx hb dL_law_1246 ?_
  obtain ⟨hg_193, h⟩ := of_guard h
  refine va_sld hx hb hX hbl hbA hS (gd_in hg_193) dL_law_1247 ?_
  refine lv_aload_n hx hb dL_law_1248 rfl (lv_at hl 0 rfl) ?_
  refine lv_iload hx hb dL_law_1249 (lv_at hl 4 rfl) ?_
  refine lv_iconst (v := (2 : Int32)) hx hb dL_law_1251 (by decide) ?_
  refine lv_iadd hx hb dL_law_1252 ?_
  obtain ⟨hg_194, h⟩ := of_guard h
  refine va_sld hx hb hX hbl hbA hS (gd_in hg_194) dL_law_1253 ?_
  obtain ⟨q_195, hq_195, h⟩ := of_bind h
  refine cx_z (rn_V (As := [.int (xs (l4 + (1 : Int32)).toNatClampNeg), .int (xs (l4 + (2 : Int32)).toNatClampNeg)]) (rest := []) X hK hR k1 rfl (by decide) hl.1 (c_X4_cut l cA D Λ hT σ a1 (xs (l4 + (1 : Int32)).toNatClampNeg) (xs (l4 + (2 : Int32)).toNatClampNeg) k1 hq_195) (cwV 2 hts gL_law_X4_cut rfl rfl rfl (by decide +kernel) ⟨Nat.le_trans (by decide) hM.1, Nat.le_trans (by decide) hM.2⟩) rfl rfl (Nat.le_of_ble_eq_true rfl) dL_law_1254 (hf := hcs0)) hS hdm hXK (fun H locs hR hS hXK => ?_)
  refine lv_aload_n hx hb dL_law_1257 rfl (lv_at hl 2 rfl) ?_
  refine lv_aload_n hx hb dL_law_1258 rfl (lv_at hl 0 rfl) ?_
  refine lv_iload hx hb dL_law_1259 (lv_at hl 4 rfl) ?_
  refine lv_iconst (v := (1 : Int32)) hx hb dL_law_1261 (by decide) ?_
  refine lv_iadd hx hb dL_law_1262 ?_
  obtain ⟨hg_196, h⟩ := of_guard h
  refine va_sld hx hb hX hbl hbA hS (gd_in hg_196) dL_law_1263 ?_
  refine lv_aload_n hx hb dL_law_1264 rfl (lv_at hl 0 rfl) ?_
  refine lv_iload hx hb dL_law_1265 (lv_at hl 4 rfl) ?_
  refine lv_iconst (v := (2 : Int32)) hx hb dL_law_1267 (by decide) ?_
  refine lv_iadd hx hb dL_law_1268 ?_
  obtain ⟨hg_197, h⟩ := of_guard h
  refine va_sld hx hb hX hbl hbA hS (gd_in hg_197) dL_law_1269 ?_
  obtain ⟨q_198, hq_198, h⟩ := of_bind h
  refine cx_z (rn_V (As := [.int (xs (l4 + (1 : Int32)).toNatClampNeg), .int (xs (l4 + (2 : Int32)).toNatClampNeg)]) (rest := [.int q_195.1]) X hK hR k2 rfl (by decide) hl.1 (c_X5_cut l cA D Λ hT q_195.2 a2 (xs (l4 + (1 : Int32)).toNatClampNeg) (xs (l4 + (2 : Int32)).toNatClampNeg) k2 hq_198) (cwV 2 hts gL_law_X5_cut rfl rfl rfl (by decide +kernel) ⟨Nat.le_trans (by decide) hM.1, Nat.le_trans (by decide) hM.2⟩) rfl rfl (Nat.le_of_ble_eq_true rfl) dL_law_1270 (hf := hcs0)) hS hdm hXK (fun H locs hR hS hXK => ?_)
  refine lv_icmp_eq (tgt := 1457) hx hb dL_law_1273 (by decide) (fun hc => ?_) (fun hc => ?_)
  · have h := of_pos hc h
    obtain ⟨v_199, e_v_199⟩ : ∃ y : Int32, y = (l4 + (9 : Int32)) := ⟨_, rfl⟩
    have h := of_nm e_v_199 h
    refine lv_iinc (v := v_199) (lv' := [(4, .int v_199), (0, .ref b), (1, .ref a1), (2, .ref a2), (3, .ref a3)]) hx hb dL_law_1457 hl (k := 4) rfl (by rw [e_v_199]; rfl) (by decide) rfl (fun ls hl => ?_)
    refine lv_goto (tgt := 23) hx hb dL_law_1460 (by decide) ?_
    refine W.widen (k := cells + 1) (n := slots + 6) (Nat.le_succ _) (Nat.le_add_right _ _) ?_
    exact kb (v_199, q_198.2) (Option.some.inj h).symm H locs ls hR hS hXK (lv_sub hl [1, 2, 3, 4, 0] rfl)
  · have h := of_neg hc h
    cases h

set_option maxHeartbeats 4000000 in
set_option maxRecDepth 100000 in
theorem w_jp_L_law_1278 (X : Cx cL_law (some .boolean) 8 RL wsL_law p s m #[Value.ref b] meth c) (hK : Kn cA D s) (hT : TL Λ) (hM : 8 ≤ R.frames ∧ 175 ≤ R.locals) (hlt : l.stackTraces = false) (hdm : ∀ q, dm Λ q → s.heap.size ≤ q) (hX : va_X b L xs s s.heap) (hbl : b < s.heap.size) (hcs : cells + 1 ≤ R.cells ∧ slots + 6 ≤ R.slots) (a1 a2 a3 : Nat) (k1 : isK Λ a1 5) (k2 : isK Λ a2 6) (k3 : isK Λ a3 8) (l4 : Int32) (σ : Sto) {r : (Int32 × Sto) ⊕ Sto} (h : jp_L_law_1278 Λ xs L a1 a2 a3 l4 σ = some r) (kb : ∀ z : Int32 × Sto, r = .inl z → ∀ (H : Heap) (locs : List Loc) (ls : Array Slot), Rep cA D Λ z.2 H → va_S (frm s.heap.size) s.heap H locs → XK Λ sa s H → lv_has ls 8 [(0, .ref b), (1, .ref a1), (2, .ref a2), (3, .ref a3), (4, .int z.1)] → W p l e R s m #[Value.ref b] below meth c H locs (cells + 1) (slots + 6) Q (F0 m 23 ls [])) (kx : ∀ z : Sto, r = .inr z → ∀ (H : Heap) (locs : List Loc) (ls : Array Slot), Rep cA D Λ z H → va_S (frm s.heap.size) s.heap H locs → XK Λ sa s H → lv_has ls 8 [] → W p l e R s m #[Value.ref b] below meth c H locs (cells + 1) (slots + 6) Q (F0 m 1463 ls [])) (H : Heap) (locs : List Loc) (ls : Array Slot) (hR : Rep cA D Λ σ H) (hS : va_S (frm s.heap.size) s.heap H locs) (hXK : XK Λ sa s H) (hl : lv_has ls 8 [(0, .ref b), (1, .ref a1), (2, .ref a2), (3, .ref a3), (4, .int l4)]) : W p l e R s m #[Value.ref b] below meth c H locs cells slots Q (F0 m 1278 ls []) := by
  have hx := X.1
  have hb := X.2.1
  have hown := X.2.2.2.2.1
  have hts := X.2.2.2.2.2.1
  have hbA : ¬ frm s.heap.size b := Nat.not_le.mpr hbl
  have hcs0 : cells ≤ R.cells ∧ slots ≤ R.slots := ⟨by omega, by omega⟩
  unfold jp_L_law_1278 at h
  refine lv_aload_n hx hb dL_law_1278 rfl (lv_at hl 1 rfl) ?_
  refine lv_aload_n hx hb dL_law_1279 rfl (lv_at hl 0 rfl) ?_
  refine lv_iload hx hb dL_law_1280 (lv_at hl 4 rfl) ?_
  refine lv_iconst (v := (1 : Int32)) hx hb dL_law_1282 (by decide) ?_
  refine lv_iadd hx hb dL_law_1283 ?_
  obtain ⟨hg_200, h⟩ := of_guard h
  refine va_sld hx hb hX hbl hbA hS (gd_in hg_200) dL_law_1284 ?_
  refine lv_aload_n hx hb dL_law_1285 rfl (lv_at hl 0 rfl) ?_
  refine lv_iload hx hb dL_law_1286 (lv_at hl 4 rfl) ?_
  refine lv_iconst (v := (2 : Int32)) hx hb dL_law_1288 (by decide) ?_
  refine lv_iadd hx hb dL_law_1289 ?_
  obtain ⟨hg_201, h⟩ := of_guard h
  refine va_sld hx hb hX hbl hbA hS (gd_in hg_201) dL_law_1290 ?_
  refine lv_aload_n hx hb dL_law_1291 rfl (lv_at hl 0 rfl) ?_
  refine lv_iload hx hb dL_law_1292 (lv_at hl 4 rfl) ?_
  refine lv_iconst (v := (3 : Int32)) hx hb dL_law_1294 (by decide) ?_
  refine lv_iadd hx hb dL_law_1295 ?_
  obtain ⟨hg_202, h⟩ := of_guard h
  refine va_sld hx hb hX hbl hbA hS (gd_in hg_202) dL_law_1296 ?_
  obtain ⟨q_203, hq_203, h⟩ := of_bind h
  refine cx_i (rn_V (As := [.int (xs (l4 + (1 : Int32)).toNatClampNeg), .int (xs (l4 + (2 : Int32)).toNatClampNeg), .int (xs (l4 + (3 : Int32)).toNatClampNeg)]) (rest := []) X hK hR k1 rfl (by decide) hl.1 (c_X4_spans l cA D Λ hT σ a1 (xs (l4 + (1 : Int32)).toNatClampNeg) (xs (l4 + (2 : Int32)).toNatClampNeg) (xs (l4 + (3 : Int32)).toNatClampNeg) k1 hq_203) (cwV 3 hts gL_law_X4_spans rfl rfl rfl (by decide +kernel) ⟨Nat.le_trans (by decide) hM.1, Nat.le_trans (by decide) hM.2⟩) rfl rfl (Nat.le_of_ble_eq_true rfl) dL_law_1297 (hf := hcs0)) hS hdm hXK (fun H locs hR hS hXK => ?_)
  refine lv_aload_n hx hb dL_law_1300 rfl (lv_at hl 2 rfl) ?_
  refine lv_aload_n hx hb dL_law_1301 rfl (lv_at hl 0 rfl) ?_
  refine lv_iload hx hb dL_law_1302 (lv_at hl 4 rfl) ?_
  refine lv_iconst (v := (1 : Int32)) hx hb dL_law_1304 (by decide) ?_
  refine lv_iadd hx hb dL_law_1305 ?_
  obtain ⟨hg_204, h⟩ := of_guard h
  refine va_sld hx hb hX hbl hbA hS (gd_in hg_204) dL_law_1306 ?_
  refine lv_aload_n hx hb dL_law_1307 rfl (lv_at hl 0 rfl) ?_
  refine lv_iload hx hb dL_law_1308 (lv_at hl 4 rfl) ?_
  refine lv_iconst (v := (2 : Int32)) hx hb dL_law_1310 (by decide) ?_
  refine lv_iadd hx hb dL_law_1311 ?_
  obtain ⟨hg_205, h⟩ := of_guard h
  refine va_sld hx hb hX hbl hbA hS (gd_in hg_205) dL_law_1312 ?_
  refine lv_aload_n hx hb dL_law_1313 rfl (lv_at hl 0 rfl) ?_
  refine lv_iload hx hb dL_law_1314 (lv_at hl 4 rfl) ?_
  refine lv_iconst (v := (3 : Int32)) hx hb dL_law_1316 (by decide) ?_
  refine lv_iadd hx hb dL_law_1317 ?_
  obtain ⟨hg_206, h⟩ := of_guard h
  refine va_sld hx hb hX hbl hbA hS (gd_in hg_206) dL_law_1318 ?_
  obtain ⟨q_207, hq_207, h⟩ := of_bind h
  refine cx_i (rn_V (As := [.int (xs (l4 + (1 : Int32)).toNatClampNeg), .int (xs (l4 + (2 : Int32)).toNatClampNeg), .int (xs (l4 + (3 : Int32)).toNatClampNeg)]) (rest := [.int q_203.1]) X hK hR k2 rfl (by decide) hl.1 (c_X5_spans l cA D Λ hT q_203.2 a2 (xs (l4 + (1 : Int32)).toNatClampNeg) (xs (l4 + (2 : Int32)).toNatClampNeg) (xs (l4 + (3 : Int32)).toNatClampNeg) k2 hq_207) (cwV 3 hts gL_law_X5_spans rfl rfl rfl (by decide +kernel) ⟨Nat.le_trans (by decide) hM.1, Nat.le_trans (by decide) hM.2⟩) rfl rfl (Nat.le_of_ble_eq_true rfl) dL_law_1319 (hf := hcs0)) hS hdm hXK (fun H locs hR hS hXK => ?_)
  refine lv_icmp_eq (tgt := 1457) hx hb dL_law_1322 (by decide) (fun hc => ?_) (fun hc => ?_)
  · have h := of_pos hc h
    obtain ⟨v_208, e_v_208⟩ : ∃ y : Int32, y = (l4 + (9 : Int32)) := ⟨_, rfl⟩
    have h := of_nm e_v_208 h
    refine lv_iinc (v := v_208) (lv' := [(4, .int v_208), (0, .ref b), (1, .ref a1), (2, .ref a2), (3, .ref a3)]) hx hb dL_law_1457 hl (k := 4) rfl (by rw [e_v_208]; rfl) (by decide) rfl (fun ls hl => ?_)
    refine lv_goto (tgt := 23) hx hb dL_law_1460 (by decide) ?_
    refine W.widen (k := cells + 1) (n := slots + 6) (Nat.le_succ _) (Nat.le_add_right _ _) ?_
    exact kb (v_208, q_207.2) (Option.some.inj h).symm H locs ls hR hS hXK (lv_sub hl [1, 2, 3, 4, 0] rfl)
  · have h := of_neg hc h
    cases h

set_option maxHeartbeats 4000000 in
set_option maxRecDepth 100000 in
theorem w_jp_L_law_1327 (X : Cx cL_law (some .boolean) 8 RL wsL_law p s m #[Value.ref b] meth c) (hK : Kn cA D s) (hT : TL Λ) (hM : 8 ≤ R.frames ∧ 175 ≤ R.locals) (hlt : l.stackTraces = false) (hdm : ∀ q, dm Λ q → s.heap.size ≤ q) (hX : va_X b L xs s s.heap) (hbl : b < s.heap.size) (hcs : cells + 1 ≤ R.cells ∧ slots + 6 ≤ R.slots) (a1 a2 a3 : Nat) (k1 : isK Λ a1 5) (k2 : isK Λ a2 6) (k3 : isK Λ a3 8) (l4 : Int32) (σ : Sto) {r : (Int32 × Sto) ⊕ Sto} (h : jp_L_law_1327 Λ xs L a1 a2 a3 l4 σ = some r) (kb : ∀ z : Int32 × Sto, r = .inl z → ∀ (H : Heap) (locs : List Loc) (ls : Array Slot), Rep cA D Λ z.2 H → va_S (frm s.heap.size) s.heap H locs → XK Λ sa s H → lv_has ls 8 [(0, .ref b), (1, .ref a1), (2, .ref a2), (3, .ref a3), (4, .int z.1)] → W p l e R s m #[Value.ref b] below meth c H locs (cells + 1) (slots + 6) Q (F0 m 23 ls [])) (kx : ∀ z : Sto, r = .inr z → ∀ (H : Heap) (locs : List Loc) (ls : Array Slot), Rep cA D Λ z H → va_S (frm s.heap.size) s.heap H locs → XK Λ sa s H → lv_has ls 8 [] → W p l e R s m #[Value.ref b] below meth c H locs (cells + 1) (slots + 6) Q (F0 m 1463 ls [])) (H : Heap) (locs : List Loc) (ls : Array Slot) (hR : Rep cA D Λ σ H) (hS : va_S (frm s.heap.size) s.heap H locs) (hXK : XK Λ sa s H) (hl : lv_has ls 8 [(0, .ref b), (1, .ref a1), (2, .ref a2), (3, .ref a3), (4, .int l4)]) : W p l e R s m #[Value.ref b] below meth c H locs cells slots Q (F0 m 1327 ls []) := by
  have hx := X.1
  have hb := X.2.1
  have hown := X.2.2.2.2.1
  have hts := X.2.2.2.2.2.1
  have hbA : ¬ frm s.heap.size b := Nat.not_le.mpr hbl
  have hcs0 : cells ≤ R.cells ∧ slots ≤ R.slots := ⟨by omega, by omega⟩
  unfold jp_L_law_1327 at h
  refine lv_aload_n hx hb dL_law_1327 rfl (lv_at hl 1 rfl) ?_
  refine lv_aload_n hx hb dL_law_1328 rfl (lv_at hl 0 rfl) ?_
  refine lv_iload hx hb dL_law_1329 (lv_at hl 4 rfl) ?_
  refine lv_iconst (v := (1 : Int32)) hx hb dL_law_1331 (by decide) ?_
  refine lv_iadd hx hb dL_law_1332 ?_
  obtain ⟨hg_209, h⟩ := of_guard h
  refine va_sld hx hb hX hbl hbA hS (gd_in hg_209) dL_law_1333 ?_
  refine lv_aload_n hx hb dL_law_1334 rfl (lv_at hl 0 rfl) ?_
  refine lv_iload hx hb dL_law_1335 (lv_at hl 4 rfl) ?_
  refine lv_iconst (v := (2 : Int32)) hx hb dL_law_1337 (by decide) ?_
  refine lv_iadd hx hb dL_law_1338 ?_
  obtain ⟨hg_210, h⟩ := of_guard h
  refine va_sld hx hb hX hbl hbA hS (gd_in hg_210) dL_law_1339 ?_
  refine lv_aload_n hx hb dL_law_1340 rfl (lv_at hl 0 rfl) ?_
  refine lv_iload hx hb dL_law_1341 (lv_at hl 4 rfl) ?_
  refine lv_iconst (v := (3 : Int32)) hx hb dL_law_1343 (by decide) ?_
  refine lv_iadd hx hb dL_law_1344 ?_
  obtain ⟨hg_211, h⟩ := of_guard h
  refine va_sld hx hb hX hbl hbA hS (gd_in hg_211) dL_law_1345 ?_
  refine lv_aload_n hx hb dL_law_1346 rfl (lv_at hl 0 rfl) ?_
  refine lv_iload hx hb dL_law_1347 (lv_at hl 4 rfl) ?_
  refine lv_iconst (v := (4 : Int32)) hx hb dL_law_1349 (by decide) ?_
  refine lv_iadd hx hb dL_law_1350 ?_
  obtain ⟨hg_212, h⟩ := of_guard h
  refine va_sld hx hb hX hbl hbA hS (gd_in hg_212) dL_law_1351 ?_
  obtain ⟨q_213, hq_213, h⟩ := of_bind h
  refine cx_i (rn_V (As := [.int (xs (l4 + (1 : Int32)).toNatClampNeg), .int (xs (l4 + (2 : Int32)).toNatClampNeg), .int (xs (l4 + (3 : Int32)).toNatClampNeg), .int (xs (l4 + (4 : Int32)).toNatClampNeg)]) (rest := []) X hK hR k1 rfl (by decide) hl.1 (c_X4_part l cA D Λ hT σ a1 (xs (l4 + (1 : Int32)).toNatClampNeg) (xs (l4 + (2 : Int32)).toNatClampNeg) (xs (l4 + (3 : Int32)).toNatClampNeg) (xs (l4 + (4 : Int32)).toNatClampNeg) k1 hq_213) (cwV 4 hts gL_law_X4_part rfl rfl rfl (by decide +kernel) ⟨Nat.le_trans (by decide) hM.1, Nat.le_trans (by decide) hM.2⟩) rfl rfl (Nat.le_of_ble_eq_true rfl) dL_law_1352 (hf := hcs0)) hS hdm hXK (fun H locs hR hS hXK => ?_)
  refine lv_aload_n hx hb dL_law_1355 rfl (lv_at hl 2 rfl) ?_
  refine lv_aload_n hx hb dL_law_1356 rfl (lv_at hl 0 rfl) ?_
  refine lv_iload hx hb dL_law_1357 (lv_at hl 4 rfl) ?_
  refine lv_iconst (v := (1 : Int32)) hx hb dL_law_1359 (by decide) ?_
  refine lv_iadd hx hb dL_law_1360 ?_
  obtain ⟨hg_214, h⟩ := of_guard h
  refine va_sld hx hb hX hbl hbA hS (gd_in hg_214) dL_law_1361 ?_
  refine lv_aload_n hx hb dL_law_1362 rfl (lv_at hl 0 rfl) ?_
  refine lv_iload hx hb dL_law_1363 (lv_at hl 4 rfl) ?_
  refine lv_iconst (v := (2 : Int32)) hx hb dL_law_1365 (by decide) ?_
  refine lv_iadd hx hb dL_law_1366 ?_
  obtain ⟨hg_215, h⟩ := of_guard h
  refine va_sld hx hb hX hbl hbA hS (gd_in hg_215) dL_law_1367 ?_
  refine lv_aload_n hx hb dL_law_1368 rfl (lv_at hl 0 rfl) ?_
  refine lv_iload hx hb dL_law_1369 (lv_at hl 4 rfl) ?_
  refine lv_iconst (v := (3 : Int32)) hx hb dL_law_1371 (by decide) ?_
  refine lv_iadd hx hb dL_law_1372 ?_
  obtain ⟨hg_216, h⟩ := of_guard h
  refine va_sld hx hb hX hbl hbA hS (gd_in hg_216) dL_law_1373 ?_
  refine lv_aload_n hx hb dL_law_1374 rfl (lv_at hl 0 rfl) ?_
  refine lv_iload hx hb dL_law_1375 (lv_at hl 4 rfl) ?_
  refine lv_iconst (v := (4 : Int32)) hx hb dL_law_1377 (by decide) ?_
  refine lv_iadd hx hb dL_law_1378 ?_
  obtain ⟨hg_217, h⟩ := of_guard h
  refine va_sld hx hb hX hbl hbA hS (gd_in hg_217) dL_law_1379 ?_
  obtain ⟨q_218, hq_218, h⟩ := of_bind h
  refine cx_i (rn_V (As := [.int (xs (l4 + (1 : Int32)).toNatClampNeg), .int (xs (l4 + (2 : Int32)).toNatClampNeg), .int (xs (l4 + (3 : Int32)).toNatClampNeg), .int (xs (l4 + (4 : Int32)).toNatClampNeg)]) (rest := [.int q_213.1]) X hK hR k2 rfl (by decide) hl.1 (c_X5_part l cA D Λ hT q_213.2 a2 (xs (l4 + (1 : Int32)).toNatClampNeg) (xs (l4 + (2 : Int32)).toNatClampNeg) (xs (l4 + (3 : Int32)).toNatClampNeg) (xs (l4 + (4 : Int32)).toNatClampNeg) k2 hq_218) (cwV 4 hts gL_law_X5_part rfl rfl rfl (by decide +kernel) ⟨Nat.le_trans (by decide) hM.1, Nat.le_trans (by decide) hM.2⟩) rfl rfl (Nat.le_of_ble_eq_true rfl) dL_law_1380 (hf := hcs0)) hS hdm hXK (fun H locs hR hS hXK => ?_)
  refine lv_icmp_eq (tgt := 1457) hx hb dL_law_1383 (by decide) (fun hc => ?_) (fun hc => ?_)
  · have h := of_pos hc h
    obtain ⟨v_219, e_v_219⟩ : ∃ y : Int32, y = (l4 + (9 : Int32)) := ⟨_, rfl⟩
    have h := of_nm e_v_219 h
    refine lv_iinc (v := v_219) (lv' := [(4, .int v_219), (0, .ref b), (1, .ref a1), (2, .ref a2), (3, .ref a3)]) hx hb dL_law_1457 hl (k := 4) rfl (by rw [e_v_219]; rfl) (by decide) rfl (fun ls hl => ?_)
    refine lv_goto (tgt := 23) hx hb dL_law_1460 (by decide) ?_
    refine W.widen (k := cells + 1) (n := slots + 6) (Nat.le_succ _) (Nat.le_add_right _ _) ?_
    exact kb (v_219, q_218.2) (Option.some.inj h).symm H locs ls hR hS hXK (lv_sub hl [1, 2, 3, 4, 0] rfl)
  · have h := of_neg hc h
    cases h

set_option maxHeartbeats 4000000 in
set_option maxRecDepth 100000 in
theorem w_jp_L_law_1388 (X : Cx cL_law (some .boolean) 8 RL wsL_law p s m #[Value.ref b] meth c) (hK : Kn cA D s) (hT : TL Λ) (hM : 8 ≤ R.frames ∧ 175 ≤ R.locals) (hlt : l.stackTraces = false) (hdm : ∀ q, dm Λ q → s.heap.size ≤ q) (hX : va_X b L xs s s.heap) (hbl : b < s.heap.size) (hcs : cells + 1 ≤ R.cells ∧ slots + 6 ≤ R.slots) (a1 a2 a3 : Nat) (k1 : isK Λ a1 5) (k2 : isK Λ a2 6) (k3 : isK Λ a3 8) (l4 : Int32) (σ : Sto) {r : (Int32 × Sto) ⊕ Sto} (h : jp_L_law_1388 Λ xs L a1 a2 a3 l4 σ = some r) (kb : ∀ z : Int32 × Sto, r = .inl z → ∀ (H : Heap) (locs : List Loc) (ls : Array Slot), Rep cA D Λ z.2 H → va_S (frm s.heap.size) s.heap H locs → XK Λ sa s H → lv_has ls 8 [(0, .ref b), (1, .ref a1), (2, .ref a2), (3, .ref a3), (4, .int z.1)] → W p l e R s m #[Value.ref b] below meth c H locs (cells + 1) (slots + 6) Q (F0 m 23 ls [])) (kx : ∀ z : Sto, r = .inr z → ∀ (H : Heap) (locs : List Loc) (ls : Array Slot), Rep cA D Λ z H → va_S (frm s.heap.size) s.heap H locs → XK Λ sa s H → lv_has ls 8 [] → W p l e R s m #[Value.ref b] below meth c H locs (cells + 1) (slots + 6) Q (F0 m 1463 ls [])) (H : Heap) (locs : List Loc) (ls : Array Slot) (hR : Rep cA D Λ σ H) (hS : va_S (frm s.heap.size) s.heap H locs) (hXK : XK Λ sa s H) (hl : lv_has ls 8 [(0, .ref b), (1, .ref a1), (2, .ref a2), (3, .ref a3), (4, .int l4)]) : W p l e R s m #[Value.ref b] below meth c H locs cells slots Q (F0 m 1388 ls []) := by
  have hx := X.1
  have hb := X.2.1
  have hown := X.2.2.2.2.1
  have hts := X.2.2.2.2.2.1
  have hbA : ¬ frm s.heap.size b := Nat.not_le.mpr hbl
  have hcs0 : cells ≤ R.cells ∧ slots ≤ R.slots := ⟨by omega, by omega⟩
  unfold jp_L_law_1388 at h
  refine lv_aload_n hx hb dL_law_1388 rfl (lv_at hl 1 rfl) ?_
  obtain ⟨q_220, hq_220, h⟩ := of_bind h
  refine cx_i (rn_V (As := []) (rest := []) X hK hR k1 rfl (by decide) hl.1 (c_X4_back l cA D Λ hT σ a1 k1 hq_220) (cwV 0 hts gL_law_X4_back rfl rfl rfl (by decide +kernel) ⟨Nat.le_trans (by decide) hM.1, Nat.le_trans (by decide) hM.2⟩) rfl rfl (Nat.le_of_ble_eq_true rfl) dL_law_1389 (hf := hcs0)) hS hdm hXK (fun H locs hR hS hXK => ?_)
  refine lv_aload_n hx hb dL_law_1392 rfl (lv_at hl 2 rfl) ?_
  obtain ⟨q_221, hq_221, h⟩ := of_bind h
  refine cx_i (rn_V (As := []) (rest := [.int q_220.1]) X hK hR k2 rfl (by decide) hl.1 (c_X5_back l cA D Λ hT q_220.2 a2 k2 hq_221) (cwV 0 hts gL_law_X5_back rfl rfl rfl (by decide +kernel) ⟨Nat.le_trans (by decide) hM.1, Nat.le_trans (by decide) hM.2⟩) rfl rfl (Nat.le_of_ble_eq_true rfl) dL_law_1393 (hf := hcs0)) hS hdm hXK (fun H locs hR hS hXK => ?_)
  refine lv_icmp_eq (tgt := 1457) hx hb dL_law_1396 (by decide) (fun hc => ?_) (fun hc => ?_)
  · have h := of_pos hc h
    obtain ⟨v_222, e_v_222⟩ : ∃ y : Int32, y = (l4 + (9 : Int32)) := ⟨_, rfl⟩
    have h := of_nm e_v_222 h
    refine lv_iinc (v := v_222) (lv' := [(4, .int v_222), (0, .ref b), (1, .ref a1), (2, .ref a2), (3, .ref a3)]) hx hb dL_law_1457 hl (k := 4) rfl (by rw [e_v_222]; rfl) (by decide) rfl (fun ls hl => ?_)
    refine lv_goto (tgt := 23) hx hb dL_law_1460 (by decide) ?_
    refine W.widen (k := cells + 1) (n := slots + 6) (Nat.le_succ _) (Nat.le_add_right _ _) ?_
    exact kb (v_222, q_221.2) (Option.some.inj h).symm H locs ls hR hS hXK (lv_sub hl [1, 2, 3, 4, 0] rfl)
  · have h := of_neg hc h
    cases h

set_option maxHeartbeats 4000000 in
set_option maxRecDepth 100000 in
theorem w_jp_L_law_1401 (X : Cx cL_law (some .boolean) 8 RL wsL_law p s m #[Value.ref b] meth c) (hK : Kn cA D s) (hT : TL Λ) (hM : 8 ≤ R.frames ∧ 175 ≤ R.locals) (hlt : l.stackTraces = false) (hdm : ∀ q, dm Λ q → s.heap.size ≤ q) (hX : va_X b L xs s s.heap) (hbl : b < s.heap.size) (hcs : cells + 1 ≤ R.cells ∧ slots + 6 ≤ R.slots) (a1 a2 a3 : Nat) (k1 : isK Λ a1 5) (k2 : isK Λ a2 6) (k3 : isK Λ a3 8) (l4 : Int32) (σ : Sto) {r : (Int32 × Sto) ⊕ Sto} (h : jp_L_law_1401 Λ xs L a1 a2 a3 l4 σ = some r) (kb : ∀ z : Int32 × Sto, r = .inl z → ∀ (H : Heap) (locs : List Loc) (ls : Array Slot), Rep cA D Λ z.2 H → va_S (frm s.heap.size) s.heap H locs → XK Λ sa s H → lv_has ls 8 [(0, .ref b), (1, .ref a1), (2, .ref a2), (3, .ref a3), (4, .int z.1)] → W p l e R s m #[Value.ref b] below meth c H locs (cells + 1) (slots + 6) Q (F0 m 23 ls [])) (kx : ∀ z : Sto, r = .inr z → ∀ (H : Heap) (locs : List Loc) (ls : Array Slot), Rep cA D Λ z H → va_S (frm s.heap.size) s.heap H locs → XK Λ sa s H → lv_has ls 8 [] → W p l e R s m #[Value.ref b] below meth c H locs (cells + 1) (slots + 6) Q (F0 m 1463 ls [])) (H : Heap) (locs : List Loc) (ls : Array Slot) (hR : Rep cA D Λ σ H) (hS : va_S (frm s.heap.size) s.heap H locs) (hXK : XK Λ sa s H) (hl : lv_has ls 8 [(0, .ref b), (1, .ref a1), (2, .ref a2), (3, .ref a3), (4, .int l4)]) : W p l e R s m #[Value.ref b] below meth c H locs cells slots Q (F0 m 1401 ls []) := by
  have hx := X.1
  have hb := X.2.1
  have hown := X.2.2.2.2.1
  have hts := X.2.2.2.2.2.1
  have hbA : ¬ frm s.heap.size b := Nat.not_le.mpr hbl
  have hcs0 : cells ≤ R.cells ∧ slots ≤ R.slots := ⟨by omega, by omega⟩
  unfold jp_L_law_1401 at h
  refine lv_aload_n hx hb dL_law_1401 rfl (lv_at hl 1 rfl) ?_
  refine lv_aload_n hx hb dL_law_1402 rfl (lv_at hl 0 rfl) ?_
  refine lv_iload hx hb dL_law_1403 (lv_at hl 4 rfl) ?_
  refine lv_iconst (v := (1 : Int32)) hx hb dL_law_1405 (by decide) ?_
  refine lv_iadd hx hb dL_law_1406 ?_
  obtain ⟨hg_223, h⟩ := of_guard h
  refine va_sld hx hb hX hbl hbA hS (gd_in hg_223) dL_law_1407 ?_
  refine lv_aload_n hx hb dL_law_1408 rfl (lv_at hl 3 rfl) ?_
  obtain ⟨q_224, hq_224, h⟩ := of_bind h
  refine cx_h (vx_runSW (As := [.ref a1, .int (xs (l4 + (1 : Int32)).toNatClampNeg), .ref a3]) (rest := []) (Ts := wsL_law) ⟨X.1, X.2.1, X.2.2.2.1, X.2.2.2.2.1, X.2.2.2.2.2.1⟩ (c_L_told l hlt cA D Λ hT sa σ a1 (xs (l4 + (1 : Int32)).toNatClampNeg) a3 k1 k3 hq_224) (vx_cwSW 3 hts gL_law_L_told rfl rfl rfl (by decide +kernel) ⟨Nat.le_trans (by decide) hM.1, Nat.le_trans (by decide) hM.2⟩) ⟨PX.blind, fun U hU hW1 => ⟨rfl, ⟨by rw [hU]; exact hR, hK.warm hW1⟩, by rw [hU]; exact hXK.warm hW1⟩⟩ rfl rfl hl.1 rfl (lv_room (Nat.le_of_ble_eq_true rfl)) dL_law_1409 hcs) hS hdm hXK (fun H locs hR hS hXK => ?_)
  refine lv_istore (lv' := [(5, .int q_224.1), (0, .ref b), (1, .ref a1), (2, .ref a2), (3, .ref a3), (4, .int l4)]) hx hb dL_law_1412 hl (by decide) rfl (fun ls hl => ?_)
  refine lv_aload_n hx hb dL_law_1414 rfl (lv_at hl 3 rfl) ?_
  refine lv_aload_n hx hb dL_law_1415 rfl (lv_at hl 1 rfl) ?_
  refine lv_iload hx hb dL_law_1416 (lv_at hl 5 rfl) ?_
  refine lv_iconst (v := (1 : Int32)) hx hb dL_law_1418 (by decide) ?_
  refine lv_iadd hx hb dL_law_1419 ?_
  obtain ⟨hg_225, h⟩ := of_guard h
  refine va_sld hx hb hX hbl hbA hS (gd_in hg_225) dL_law_1420 ?_
  obtain ⟨q_226, hq_226, h⟩ := of_bind h
  refine cx_i (rn_V (As := [.int (xs (l4 + (1 : Int32)).toNatClampNeg)]) (rest := []) X hK hR k2 rfl (by decide) hl.1 (c_X5_told l cA D Λ hT q_224.2 a2 (xs (l4 + (1 : Int32)).toNatClampNeg) k2 hq_226) (cwV 1 hts gL_law_X5_told rfl rfl rfl (by decide +kernel) ⟨Nat.le_trans (by decide) hM.1, Nat.le_trans (by decide) hM.2⟩) rfl rfl (Nat.le_of_ble_eq_true rfl) dL_law_1421 (hf := ⟨by omega, by omega⟩)) hS hdm hXK (fun H locs hR hS hXK => ?_)
  refine lv_istore (lv' := [(6, .int q_226.1), (5, .int q_224.1), (0, .ref b), (1, .ref a1), (2, .ref a2), (3, .ref a3), (4, .int l4)]) hx hb dL_law_1424 hl (by decide) rfl (fun ls hl => ?_)
  refine lv_aload_n hx hb dL_law_1426 rfl (lv_at hl 4 rfl) ?_
  refine cx_i (rn_V (As := []) (rest := []) X hK hR k2 rfl (by decide) hl.1 (c_X5_thrown l cA D Λ hT q_226.2 a2 k2) (cwV 0 hts gL_law_X5_thrown rfl rfl rfl (by decide +kernel) ⟨Nat.le_trans (by decide) hM.1, Nat.le_trans (by decide) hM.2⟩) rfl rfl (Nat.le_of_ble_eq_true rfl) dL_law_1427 (hf := ⟨by omega, by omega⟩)) hS hdm hXK (fun H locs hR hS hXK => ?_)
  refine lv_topi (fun r_227 e_227 => ?_)
  have h := of_nm e_227 h
  refine lv_iload hx hb dL_law_1430 (lv_at hl 1 rfl) ?_
  refine lv_icmp_eq (tgt := 1437) hx hb dL_law_1432 (by decide) (fun hc => ?_) (fun hc => ?_)
  · have h := of_pos hc h
    refine lv_iload hx hb dL_law_1437 (lv_at hl 1 rfl) ?_
    refine lv_if_ne (tgt := 1454) hx hb dL_law_1439 (by decide) (fun hc => ?_) (fun hc => ?_)
    · have h := of_neg hc h
      refine lv_goto (tgt := 1457) hx hb dL_law_1454 (by decide) ?_
      obtain ⟨v_228, e_v_228⟩ : ∃ y : Int32, y = (l4 + (9 : Int32)) := ⟨_, rfl⟩
      have h := of_nm e_v_228 h
      refine lv_iinc (v := v_228) (lv' := [(4, .int v_228), (6, .int q_226.1), (5, .int q_224.1), (0, .ref b), (1, .ref a1), (2, .ref a2), (3, .ref a3)]) hx hb dL_law_1457 hl (k := 6) rfl (by rw [e_v_228]; rfl) (by decide) rfl (fun ls hl => ?_)
      refine lv_goto (tgt := 23) hx hb dL_law_1460 (by decide) ?_
      exact kb (v_228, q_226.2) (Option.some.inj h).symm H locs ls hR hS hXK (lv_sub hl [3, 4, 5, 6, 0] rfl)
    · have h := of_pos hc h
      refine lv_aload_n hx hb dL_law_1442 rfl (lv_at hl 5 rfl) ?_
      refine lv_iconst (v := (0 : Int32)) hx hb dL_law_1443 (by decide) ?_
      obtain ⟨hg_229, h⟩ := of_guard h
      refine rw_lald X hK hR k3 hg_229 dL_law_1444 ?_
      refine lv_iload hx hb dL_law_1445 (lv_at hl 0 rfl) ?_
      refine lv_i2l (v := (q_226.1.toInt64)) hx hb dL_law_1447 rfl ?_
      refine W.lcmp hx hb dL_law_1448 ?_
      refine lv_if_eq (tgt := 1454) hx hb dL_law_1449 (by decide) (fun hc => ?_) (fun hc => ?_)
      · have h := of_pos hc h
        refine lv_goto (tgt := 1457) hx hb dL_law_1454 (by decide) ?_
        obtain ⟨v_230, e_v_230⟩ : ∃ y : Int32, y = (l4 + (9 : Int32)) := ⟨_, rfl⟩
        have h := of_nm e_v_230 h
        refine lv_iinc (v := v_230) (lv' := [(4, .int v_230), (6, .int q_226.1), (5, .int q_224.1), (0, .ref b), (1, .ref a1), (2, .ref a2), (3, .ref a3)]) hx hb dL_law_1457 hl (k := 6) rfl (by rw [e_v_230]; rfl) (by decide) rfl (fun ls hl => ?_)
        refine lv_goto (tgt := 23) hx hb dL_law_1460 (by decide) ?_
        exact kb (v_230, q_226.2) (Option.some.inj h).symm H locs ls hR hS hXK (lv_sub hl [3, 4, 5, 6, 0] rfl)
      · have h := of_neg hc h
        cases h
  · have h := of_neg hc h
    cases h

set_option maxHeartbeats 4000000 in
set_option maxRecDepth 100000 in
theorem w_bd_L_law (X : Cx cL_law (some .boolean) 8 RL wsL_law p s m #[Value.ref b] meth c) (hK : Kn cA D s) (hT : TL Λ) (hM : 8 ≤ R.frames ∧ 175 ≤ R.locals) (hlt : l.stackTraces = false) (hdm : ∀ q, dm Λ q → s.heap.size ≤ q) (hX : va_X b L xs s s.heap) (hbl : b < s.heap.size) (hcs : cells + 1 ≤ R.cells ∧ slots + 6 ≤ R.slots) (a1 a2 a3 : Nat) (k1 : isK Λ a1 5) (k2 : isK Λ a2 6) (k3 : isK Λ a3 8) (s9 : Int32 × Sto) {r : (Int32 × Sto) ⊕ Sto} (h : bd_L_law Λ xs L a1 a2 a3 s9 = some r) (kb : ∀ z : Int32 × Sto, r = .inl z → ∀ (H : Heap) (locs : List Loc) (ls : Array Slot), Rep cA D Λ z.2 H → va_S (frm s.heap.size) s.heap H locs → XK Λ sa s H → lv_has ls 8 [(0, .ref b), (1, .ref a1), (2, .ref a2), (3, .ref a3), (4, .int z.1)] → W p l e R s m #[Value.ref b] below meth c H locs (cells + 1) (slots + 6) Q (F0 m 23 ls [])) (kx : ∀ z : Sto, r = .inr z → ∀ (H : Heap) (locs : List Loc) (ls : Array Slot), Rep cA D Λ z H → va_S (frm s.heap.size) s.heap H locs → XK Λ sa s H → lv_has ls 8 [] → W p l e R s m #[Value.ref b] below meth c H locs (cells + 1) (slots + 6) Q (F0 m 1463 ls [])) (H : Heap) (locs : List Loc) (ls : Array Slot) (hR : Rep cA D Λ s9.2 H) (hS : va_S (frm s.heap.size) s.heap H locs) (hXK : XK Λ sa s H) (hl : lv_has ls 8 [(0, .ref b), (1, .ref a1), (2, .ref a2), (3, .ref a3), (4, .int s9.1)]) : W p l e R s m #[Value.ref b] below meth c H locs cells slots Q (F0 m 23 ls []) := by
  have hx := X.1
  have hb := X.2.1
  have hown := X.2.2.2.2.1
  have hts := X.2.2.2.2.2.1
  have hbA : ¬ frm s.heap.size b := Nat.not_le.mpr hbl
  have hcs0 : cells ≤ R.cells ∧ slots ≤ R.slots := ⟨by omega, by omega⟩
  unfold bd_L_law at h
  refine lv_iload hx hb dL_law_23 (lv_at hl 4 rfl) ?_
  refine lv_aload_n hx hb dL_law_25 rfl (lv_at hl 0 rfl) ?_
  refine va_slen hx hb hX hbl hbA hS dL_law_26 ?_
  refine lv_bipush (v := (9 : Int32)) hx hb dL_law_27 (by decide) ?_
  refine lv_isub hx hb dL_law_29 ?_
  refine lv_icmp_gt (tgt := 1463) hx hb dL_law_30 (by decide) (fun hc => ?_) (fun hc => ?_)
  · have h := of_pos hc h
    refine W.widen (k := cells + 1) (n := slots + 6) (Nat.le_succ _) (Nat.le_add_right _ _) ?_
    exact kx s9.2 (Option.some.inj h).symm H locs ls hR hS hXK (lv_sub hl [] rfl)
  · have h := of_neg hc h
    refine lv_aload_n hx hb dL_law_33 rfl (lv_at hl 0 rfl) ?_
    refine lv_iload hx hb dL_law_34 (lv_at hl 4 rfl) ?_
    obtain ⟨hg_1, h⟩ := of_guard h
    refine va_sld hx hb hX hbl hbA hS (gd_in hg_1) dL_law_36 ?_
    refine lv_bipush (v := (31 : Int32)) hx hb dL_law_37 (by decide) ?_
    refine lv_iand hx hb dL_law_39 ?_
    by_cases hc : ((xs s9.1.toNatClampNeg) &&& (31 : Int32)) = (0 : Int32)
    · have h := of_pos hc h
      refine sw_in (k := 0) (tgt := 164) hx hb dL_law_40 hc (by decide) (by decide) rfl (by decide) ?_
      exact w_jp_L_law_164 X hK hT hM hlt hdm hX hbl hcs a1 a2 a3 k1 k2 k3 s9.1 s9.2 h kb kx H locs ls hR hS hXK (lv_sub hl [0, 1, 2, 3, 4] rfl)
    have h := of_neg hc h
    have hn_0 := hc
    clear hc
    by_cases hc : ((xs s9.1.toNatClampNeg) &&& (31 : Int32)) = (1 : Int32)
    · have h := of_pos hc h
      refine sw_in (k := 1) (tgt := 201) hx hb dL_law_40 hc (by decide) (by decide) rfl (by decide) ?_
      exact w_jp_L_law_201 X hK hT hM hlt hdm hX hbl hcs a1 a2 a3 k1 k2 k3 s9.1 s9.2 h kb kx H locs ls hR hS hXK (lv_sub hl [0, 1, 2, 3, 4] rfl)
    have h := of_neg hc h
    have hn_1 := hc
    clear hc
    by_cases hc : ((xs s9.1.toNatClampNeg) &&& (31 : Int32)) = (2 : Int32)
    · have h := of_pos hc h
      refine sw_in (k := 2) (tgt := 226) hx hb dL_law_40 hc (by decide) (by decide) rfl (by decide) ?_
      exact w_jp_L_law_226 X hK hT hM hlt hdm hX hbl hcs a1 a2 a3 k1 k2 k3 s9.1 s9.2 h kb kx H locs ls hR hS hXK (lv_sub hl [0, 1, 2, 3, 4] rfl)
    have h := of_neg hc h
    have hn_2 := hc
    clear hc
    by_cases hc : ((xs s9.1.toNatClampNeg) &&& (31 : Int32)) = (3 : Int32)
    · have h := of_pos hc h
      refine sw_in (k := 3) (tgt := 303) hx hb dL_law_40 hc (by decide) (by decide) rfl (by decide) ?_
      exact w_jp_L_law_303 X hK hT hM hlt hdm hX hbl hcs a1 a2 a3 k1 k2 k3 s9.1 s9.2 h kb kx H locs ls hR hS hXK (lv_sub hl [0, 1, 2, 3, 4] rfl)
    have h := of_neg hc h
    have hn_3 := hc
    clear hc
    by_cases hc : ((xs s9.1.toNatClampNeg) &&& (31 : Int32)) = (4 : Int32)
    · have h := of_pos hc h
      refine sw_in (k := 4) (tgt := 384) hx hb dL_law_40 hc (by decide) (by decide) rfl (by decide) ?_
      exact w_jp_L_law_384 X hK hT hM hlt hdm hX hbl hcs a1 a2 a3 k1 k2 k3 s9.1 s9.2 h kb kx H locs ls hR hS hXK (lv_sub hl [0, 1, 2, 3, 4] rfl)
    have h := of_neg hc h
    have hn_4 := hc
    clear hc
    by_cases hc : ((xs s9.1.toNatClampNeg) &&& (31 : Int32)) = (5 : Int32)
    · have h := of_pos hc h
      refine sw_in (k := 5) (tgt := 539) hx hb dL_law_40 hc (by decide) (by decide) rfl (by decide) ?_
      exact w_jp_L_law_539 X hK hT hM hlt hdm hX hbl hcs a1 a2 a3 k1 k2 k3 s9.1 s9.2 h kb kx H locs ls hR hS hXK (lv_sub hl [0, 1, 2, 3, 4] rfl)
    have h := of_neg hc h
    have hn_5 := hc
    clear hc
    by_cases hc : ((xs s9.1.toNatClampNeg) &&& (31 : Int32)) = (6 : Int32)
    · have h := of_pos hc h
      refine sw_in (k := 6) (tgt := 588) hx hb dL_law_40 hc (by decide) (by decide) rfl (by decide) ?_
      exact w_jp_L_law_588 X hK hT hM hlt hdm hX hbl hcs a1 a2 a3 k1 k2 k3 s9.1 s9.2 h kb kx H locs ls hR hS hXK (lv_sub hl [0, 1, 2, 3, 4] rfl)
    have h := of_neg hc h
    have hn_6 := hc
    clear hc
    by_cases hc : ((xs s9.1.toNatClampNeg) &&& (31 : Int32)) = (7 : Int32)
    · have h := of_pos hc h
      refine sw_in (k := 7) (tgt := 655) hx hb dL_law_40 hc (by decide) (by decide) rfl (by decide) ?_
      exact w_jp_L_law_655 X hK hT hM hlt hdm hX hbl hcs a1 a2 a3 k1 k2 k3 s9.1 s9.2 h kb kx H locs ls hR hS hXK (lv_sub hl [0, 1, 2, 3, 4] rfl)
    have h := of_neg hc h
    have hn_7 := hc
    clear hc
    by_cases hc : ((xs s9.1.toNatClampNeg) &&& (31 : Int32)) = (8 : Int32)
    · have h := of_pos hc h
      refine sw_in (k := 8) (tgt := 692) hx hb dL_law_40 hc (by decide) (by decide) rfl (by decide) ?_
      exact w_jp_L_law_692 X hK hT hM hlt hdm hX hbl hcs a1 a2 a3 k1 k2 k3 s9.1 s9.2 h kb kx H locs ls hR hS hXK (lv_sub hl [0, 1, 2, 3, 4] rfl)
    have h := of_neg hc h
    have hn_8 := hc
    clear hc
    by_cases hc : ((xs s9.1.toNatClampNeg) &&& (31 : Int32)) = (9 : Int32)
    · have h := of_pos hc h
      refine sw_in (k := 9) (tgt := 717) hx hb dL_law_40 hc (by decide) (by decide) rfl (by decide) ?_
      exact w_jp_L_law_717 X hK hT hM hlt hdm hX hbl hcs a1 a2 a3 k1 k2 k3 s9.1 s9.2 h kb kx H locs ls hR hS hXK (lv_sub hl [0, 1, 2, 3, 4] rfl)
    have h := of_neg hc h
    have hn_9 := hc
    clear hc
    by_cases hc : ((xs s9.1.toNatClampNeg) &&& (31 : Int32)) = (10 : Int32)
    · have h := of_pos hc h
      refine sw_in (k := 10) (tgt := 754) hx hb dL_law_40 hc (by decide) (by decide) rfl (by decide) ?_
      exact w_jp_L_law_754 X hK hT hM hlt hdm hX hbl hcs a1 a2 a3 k1 k2 k3 s9.1 s9.2 h kb kx H locs ls hR hS hXK (lv_sub hl [0, 1, 2, 3, 4] rfl)
    have h := of_neg hc h
    have hn_10 := hc
    clear hc
    by_cases hc : ((xs s9.1.toNatClampNeg) &&& (31 : Int32)) = (11 : Int32)
    · have h := of_pos hc h
      refine sw_in (k := 11) (tgt := 791) hx hb dL_law_40 hc (by decide) (by decide) rfl (by decide) ?_
      exact w_jp_L_law_791 X hK hT hM hlt hdm hX hbl hcs a1 a2 a3 k1 k2 k3 s9.1 s9.2 h kb kx H locs ls hR hS hXK (lv_sub hl [0, 1, 2, 3, 4] rfl)
    have h := of_neg hc h
    have hn_11 := hc
    clear hc
    by_cases hc : ((xs s9.1.toNatClampNeg) &&& (31 : Int32)) = (12 : Int32)
    · have h := of_pos hc h
      refine sw_in (k := 12) (tgt := 828) hx hb dL_law_40 hc (by decide) (by decide) rfl (by decide) ?_
      exact w_jp_L_law_828 X hK hT hM hlt hdm hX hbl hcs a1 a2 a3 k1 k2 k3 s9.1 s9.2 h kb kx H locs ls hR hS hXK (lv_sub hl [0, 1, 2, 3, 4] rfl)
    have h := of_neg hc h
    have hn_12 := hc
    clear hc
    by_cases hc : ((xs s9.1.toNatClampNeg) &&& (31 : Int32)) = (13 : Int32)
    · have h := of_pos hc h
      refine sw_in (k := 13) (tgt := 877) hx hb dL_law_40 hc (by decide) (by decide) rfl (by decide) ?_
      exact w_jp_L_law_877 X hK hT hM hlt hdm hX hbl hcs a1 a2 a3 k1 k2 k3 s9.1 s9.2 h kb kx H locs ls hR hS hXK (lv_sub hl [0, 1, 2, 3, 4] rfl)
    have h := of_neg hc h
    have hn_13 := hc
    clear hc
    by_cases hc : ((xs s9.1.toNatClampNeg) &&& (31 : Int32)) = (14 : Int32)
    · have h := of_pos hc h
      refine sw_in (k := 14) (tgt := 914) hx hb dL_law_40 hc (by decide) (by decide) rfl (by decide) ?_
      exact w_jp_L_law_914 X hK hT hM hlt hdm hX hbl hcs a1 a2 a3 k1 k2 k3 s9.1 s9.2 h kb kx H locs ls hR hS hXK (lv_sub hl [0, 1, 2, 3, 4] rfl)
    have h := of_neg hc h
    have hn_14 := hc
    clear hc
    by_cases hc : ((xs s9.1.toNatClampNeg) &&& (31 : Int32)) = (15 : Int32)
    · have h := of_pos hc h
      refine sw_in (k := 15) (tgt := 939) hx hb dL_law_40 hc (by decide) (by decide) rfl (by decide) ?_
      exact w_jp_L_law_939 X hK hT hM hlt hdm hX hbl hcs a1 a2 a3 k1 k2 k3 s9.1 s9.2 h kb kx H locs ls hR hS hXK (lv_sub hl [0, 1, 2, 3, 4] rfl)
    have h := of_neg hc h
    have hn_15 := hc
    clear hc
    by_cases hc : ((xs s9.1.toNatClampNeg) &&& (31 : Int32)) = (16 : Int32)
    · have h := of_pos hc h
      refine sw_in (k := 16) (tgt := 964) hx hb dL_law_40 hc (by decide) (by decide) rfl (by decide) ?_
      exact w_jp_L_law_964 X hK hT hM hlt hdm hX hbl hcs a1 a2 a3 k1 k2 k3 s9.1 s9.2 h kb kx H locs ls hR hS hXK (lv_sub hl [0, 1, 2, 3, 4] rfl)
    have h := of_neg hc h
    have hn_16 := hc
    clear hc
    by_cases hc : ((xs s9.1.toNatClampNeg) &&& (31 : Int32)) = (17 : Int32)
    · have h := of_pos hc h
      refine sw_in (k := 17) (tgt := 1001) hx hb dL_law_40 hc (by decide) (by decide) rfl (by decide) ?_
      exact w_jp_L_law_1001 X hK hT hM hlt hdm hX hbl hcs a1 a2 a3 k1 k2 k3 s9.1 s9.2 h kb kx H locs ls hR hS hXK (lv_sub hl [0, 1, 2, 3, 4] rfl)
    have h := of_neg hc h
    have hn_17 := hc
    clear hc
    by_cases hc : ((xs s9.1.toNatClampNeg) &&& (31 : Int32)) = (18 : Int32)
    · have h := of_pos hc h
      refine sw_in (k := 18) (tgt := 1050) hx hb dL_law_40 hc (by decide) (by decide) rfl (by decide) ?_
      exact w_jp_L_law_1050 X hK hT hM hlt hdm hX hbl hcs a1 a2 a3 k1 k2 k3 s9.1 s9.2 h kb kx H locs ls hR hS hXK (lv_sub hl [0, 1, 2, 3, 4] rfl)
    have h := of_neg hc h
    have hn_18 := hc
    clear hc
    by_cases hc : ((xs s9.1.toNatClampNeg) &&& (31 : Int32)) = (19 : Int32)
    · have h := of_pos hc h
      refine sw_in (k := 19) (tgt := 1099) hx hb dL_law_40 hc (by decide) (by decide) rfl (by decide) ?_
      exact w_jp_L_law_1099 X hK hT hM hlt hdm hX hbl hcs a1 a2 a3 k1 k2 k3 s9.1 s9.2 h kb kx H locs ls hR hS hXK (lv_sub hl [0, 1, 2, 3, 4] rfl)
    have h := of_neg hc h
    have hn_19 := hc
    clear hc
    by_cases hc : ((xs s9.1.toNatClampNeg) &&& (31 : Int32)) = (20 : Int32)
    · have h := of_pos hc h
      refine sw_in (k := 20) (tgt := 1136) hx hb dL_law_40 hc (by decide) (by decide) rfl (by decide) ?_
      exact w_jp_L_law_1136 X hK hT hM hlt hdm hX hbl hcs a1 a2 a3 k1 k2 k3 s9.1 s9.2 h kb kx H locs ls hR hS hXK (lv_sub hl [0, 1, 2, 3, 4] rfl)
    have h := of_neg hc h
    have hn_20 := hc
    clear hc
    by_cases hc : ((xs s9.1.toNatClampNeg) &&& (31 : Int32)) = (21 : Int32)
    · have h := of_pos hc h
      refine sw_in (k := 21) (tgt := 1204) hx hb dL_law_40 hc (by decide) (by decide) rfl (by decide) ?_
      exact w_jp_L_law_1204 X hK hT hM hlt hdm hX hbl hcs a1 a2 a3 k1 k2 k3 s9.1 s9.2 h kb kx H locs ls hR hS hXK (lv_sub hl [0, 1, 2, 3, 4] rfl)
    have h := of_neg hc h
    have hn_21 := hc
    clear hc
    by_cases hc : ((xs s9.1.toNatClampNeg) &&& (31 : Int32)) = (22 : Int32)
    · have h := of_pos hc h
      refine sw_in (k := 22) (tgt := 1241) hx hb dL_law_40 hc (by decide) (by decide) rfl (by decide) ?_
      exact w_jp_L_law_1241 X hK hT hM hlt hdm hX hbl hcs a1 a2 a3 k1 k2 k3 s9.1 s9.2 h kb kx H locs ls hR hS hXK (lv_sub hl [0, 1, 2, 3, 4] rfl)
    have h := of_neg hc h
    have hn_22 := hc
    clear hc
    by_cases hc : ((xs s9.1.toNatClampNeg) &&& (31 : Int32)) = (23 : Int32)
    · have h := of_pos hc h
      refine sw_in (k := 23) (tgt := 1278) hx hb dL_law_40 hc (by decide) (by decide) rfl (by decide) ?_
      exact w_jp_L_law_1278 X hK hT hM hlt hdm hX hbl hcs a1 a2 a3 k1 k2 k3 s9.1 s9.2 h kb kx H locs ls hR hS hXK (lv_sub hl [0, 1, 2, 3, 4] rfl)
    have h := of_neg hc h
    have hn_23 := hc
    clear hc
    by_cases hc : ((xs s9.1.toNatClampNeg) &&& (31 : Int32)) = (24 : Int32)
    · have h := of_pos hc h
      refine sw_in (k := 24) (tgt := 1327) hx hb dL_law_40 hc (by decide) (by decide) rfl (by decide) ?_
      exact w_jp_L_law_1327 X hK hT hM hlt hdm hX hbl hcs a1 a2 a3 k1 k2 k3 s9.1 s9.2 h kb kx H locs ls hR hS hXK (lv_sub hl [0, 1, 2, 3, 4] rfl)
    have h := of_neg hc h
    have hn_24 := hc
    clear hc
    by_cases hc : ((xs s9.1.toNatClampNeg) &&& (31 : Int32)) = (25 : Int32)
    · have h := of_pos hc h
      refine sw_in (k := 25) (tgt := 1388) hx hb dL_law_40 hc (by decide) (by decide) rfl (by decide) ?_
      exact w_jp_L_law_1388 X hK hT hM hlt hdm hX hbl hcs a1 a2 a3 k1 k2 k3 s9.1 s9.2 h kb kx H locs ls hR hS hXK (lv_sub hl [0, 1, 2, 3, 4] rfl)
    have h := of_neg hc h
    have hn_25 := hc
    clear hc
    by_cases hc : ((xs s9.1.toNatClampNeg) &&& (31 : Int32)) = (26 : Int32)
    · have h := of_pos hc h
      refine sw_in (k := 26) (tgt := 1401) hx hb dL_law_40 hc (by decide) (by decide) rfl (by decide) ?_
      exact w_jp_L_law_1401 X hK hT hM hlt hdm hX hbl hcs a1 a2 a3 k1 k2 k3 s9.1 s9.2 h kb kx H locs ls hR hS hXK (lv_sub hl [0, 1, 2, 3, 4] rfl)
    have h := of_neg hc h
    have hn_26 := hc
    clear hc
    refine lv_tableOut (tgt := 1457) hx hb dL_law_40 (sw_out 27 (fun k hk => by rcases (show k = 0 ∨ k = 1 ∨ k = 2 ∨ k = 3 ∨ k = 4 ∨ k = 5 ∨ k = 6 ∨ k = 7 ∨ k = 8 ∨ k = 9 ∨ k = 10 ∨ k = 11 ∨ k = 12 ∨ k = 13 ∨ k = 14 ∨ k = 15 ∨ k = 16 ∨ k = 17 ∨ k = 18 ∨ k = 19 ∨ k = 20 ∨ k = 21 ∨ k = 22 ∨ k = 23 ∨ k = 24 ∨ k = 25 ∨ k = 26 by omega) with rfl | rfl | rfl | rfl | rfl | rfl | rfl | rfl | rfl | rfl | rfl | rfl | rfl | rfl | rfl | rfl | rfl | rfl | rfl | rfl | rfl | rfl | rfl | rfl | rfl | rfl | rfl <;> assumption)) (by decide) ?_
    obtain ⟨v_231, e_v_231⟩ : ∃ y : Int32, y = (s9.1 + (9 : Int32)) := ⟨_, rfl⟩
    have h := of_nm e_v_231 h
    refine lv_iinc (v := v_231) (lv' := [(4, .int v_231), (0, .ref b), (1, .ref a1), (2, .ref a2), (3, .ref a3)]) hx hb dL_law_1457 hl (k := 4) rfl (by rw [e_v_231]; rfl) (by decide) rfl (fun ls hl => ?_)
    refine lv_goto (tgt := 23) hx hb dL_law_1460 (by decide) ?_
    refine W.widen (k := cells + 1) (n := slots + 6) (Nat.le_succ _) (Nat.le_add_right _ _) ?_
    exact kb (v_231, s9.2) (Option.some.inj h).symm H locs ls hR hS hXK (lv_sub hl [1, 2, 3, 4, 0] rfl)
