def R_law : String := "StraightPagesLaw"
def lw_P (b : Addr) (xs : List Int32) (args : Array Value) (s : State) : Prop := args = #[.ref b] ∧ s.IntsAt b xs ∧ xs.length ≤ 4608 ∧ (Jvm.Cond.and given_1 narrow_1).before args s = true
def lw_Q (_ : Array Value) (s : State) (o : Outcome) (t : State) : Prop := o = .returned (some (.int 1)) ∧ Framed s o t [] 601024 7293034
def lw_Z (below : List Frame) (a : Array Value) (s : State) : State → Prop := fun t => ∃ o, t.status = .running ∧ Ended t below o ∧ lw_Q a s o t
/-- the law's own end, with 1 on the stack, nothing written that was there before, its room as the claim has it -/
theorem lw_ret {p : Program} {l : Launch} {e : Env} {s : State} {m : MethodId} {below : List Frame} {meth : Method} {c : Code} {b : Nat} (hx : p.tables.exec = Jvm.exec) (hb : c.code = code) (hr : meth.sig.returnType = ret) (hlocks : meth.locks = false) {pc : Nat} {H : Heap} {ls : Array Slot} (hdg : decode code pc = .ok (.ireturn, 1)) : W p l e room_1 s m #[Value.ref b] below meth c H [] 601024 7293034 (lw_Z below #[Value.ref b] s) (F0 m pc ls [.int 1]) := by
  intro T hT X
  obtain ⟨fs, hret, hrun, hended, hW, hframe⟩ := X.leave (v := some (.int 1)) (hlocks := hlocks) (fun h => by rw [hr] at h; cases h)
  have hmeth' : T.vm.method? m = some meth := X.method'
  refine ⟨T.setFrames fs, ?_, .returned (some (.int 1)), hrun, hended, rfl, ⟨_, rfl⟩, hW, hframe⟩
  jvm_step X.here [X.here.top, hx, hb, hdg, hmeth', hr, ret, narrow_b1]
  (try refine ⟨rfl, ?_⟩); (try refine ⟨rfl, ?_⟩)
  first | (intro acts; rw [hret _ acts rfl rfl rfl]) | rw [hret _ _ rfl rfl rfl]
  exact Steps.refl _
/-- what holds at the law's entry: the machine, the code, the tables' words (any of lw_tbl by 'hts w (by decide +kernel)'), the script of L ints xs at the cell b, what the Statement gives of the start (any of its parts by flat_of_before) -/
def lw_At (p : Program) (s : State) (m : MethodId) (meth : Method) (c : Code) (b L : Nat) (xs : Nat → Int32) : Prop :=
  p.tables.exec = Jvm.exec ∧ c.code = code ∧ meth.sig.returnType = ret ∧ c.maxLocals = 8 ∧ s.vm.findClass R_law = some m.cls ∧ (∀ w ∈ lw_tbl, w.before #[Value.ref b] s = true) ∧ va_X b L xs s s.heap ∧ b < s.heap.size ∧ meth.locks = false ∧ (Jvm.Cond.and given_1 narrow_1).before #[Value.ref b] s = true
theorem ngW_in : ∀ w ∈ ngW, w ∈ lw_tbl := by decide +kernel
set_option maxHeartbeats 40000000 in
set_option maxRecDepth 100000 in
/-- the law from its entry, where one round's function always goes on (the hypothesis: no word of the machine in it) -/
theorem law_open (hpure : ∀ (b L : Nat) (xs : Nat → Int32), L ≤ 4608 → ∃ e9, iter (bd_L_law (layR b relE) xs L (b + 0) (b + 65) (b + 83)) FU ((0 : Int32), stoR b relE) = some e9) {p : Program} {e : Env} {s : State} {m : MethodId} {below : List Frame} {meth : Method} {c : Code} (l : Launch) (hlt : l.stackTraces = false) {b L : Nat} {xs : Nat → Int32} (hL : L ≤ 4608) (C0 : lw_At p s m meth c b L xs) : W p l e room_1 s m #[Value.ref b] below meth c s.heap [] 0 0 (lw_Z below #[Value.ref b] s) (entryFrame m ([Value.ref b] : List Value).toArray 8) := by
  obtain ⟨hx, hb, hr, hml, hown, hts0, hX, hbl, hlocks, hgv⟩ := C0
  have hts : ∀ w ∈ wsL_law, w.before #[Value.ref b] s = true := fun w h => hts0 w (wsL_law_in w h)
  have X : Cx cL_law (some .boolean) 8 RL wsL_law p s m #[Value.ref b] meth c := ⟨hx, hb, hr, hml, hown, hts, hlocks⟩
  have hflat := flat_of_before _ hgv
  obtain ⟨c0, i0, h0⟩ := u_known (C := RX0) (T := TX0) (N := 3) (n := 3) hts0 inX0 (hts0 (.instantiable RX0 3) (List.mem_of_getElem? (i := 98) rfl))
  obtain ⟨c1, i1, h1⟩ := u_known (C := RX1) (T := TX1) (N := 3) (n := 3) hts0 inX1 (hts0 (.instantiable RX1 3) (List.mem_of_getElem? (i := 91) rfl))
  obtain ⟨c2, i2, h2⟩ := u_known (C := RX2) (T := TX2) (N := 3) (n := 3) hts0 inX2 (hts0 (.instantiable RX2 3) (List.mem_of_getElem? (i := 68) rfl))
  obtain ⟨c3, i3, h3⟩ := u_known (C := RX3) (T := TX3) (N := 10) (n := 10) hts0 inX3 (hts0 (.instantiable RX3 10) (List.mem_of_getElem? (i := 133) rfl))
  obtain ⟨c4, i4, h4⟩ := u_known (C := RX4) (T := TX4) (N := 8) (n := 8) hts0 inX4 (hts0 (.instantiable RX4 8) (List.mem_of_getElem? (i := 59) rfl))
  obtain ⟨c5, i5, h5⟩ := u_known (C := RX5) (T := TX5) (N := 24) (n := 24) hts0 inX5 (hts0 (.instantiable RX5 24) (List.mem_of_getElem? (i := 634) rfl))
  obtain ⟨dC, dI, hKc⟩ : ∃ (dC : Nat → ClassId) (dI : Nat → Nat → Nat), ∀ (k : Nat) (q : vw_C), vwCl[k]? = some q → u_Kn s q.1 q.2.1 q.2.2 (dC k) (dI k) := by
    refine ⟨fun k => if k = 0 then c0 else if k = 1 then c1 else if k = 2 then c2 else if k = 3 then c3 else if k = 4 then c4 else c5, fun k => if k = 0 then i0 else if k = 1 then i1 else if k = 2 then i2 else if k = 3 then i3 else if k = 4 then i4 else i5, ?_⟩
    intro k q hq
    match k, hq with
    | 0, hq => cases hq; exact h0
    | 1, hq => cases hq; exact h1
    | 2, hq => cases hq; exact h2
    | 3, hq => cases hq; exact h3
    | 4, hq => cases hq; exact h4
    | 5, hq => cases hq; exact h5
    | k + 6, hq => simp [vwCl] at hq
  obtain ⟨d7, k7, m7, a7, b7, e7⟩ := Cond.arrayClass_spec (hts0 (.arrayClass .int) (List.mem_of_getElem? (i := 197) rfl))
  obtain ⟨d8, k8, m8, a8, b8, e8⟩ := Cond.arrayClass_spec (hts0 (.arrayClass .long) (List.mem_of_getElem? (i := 89) rfl))
  obtain ⟨d9, k9, m9, a9, b9, e9⟩ := Cond.arrayClass_spec (hts0 (.arrayClass .boolean) (List.mem_of_getElem? (i := 714) rfl))
  obtain ⟨m10, d10, k10, f10, -, a10, e10, g10⟩ := Cond.arrayOver_spec (hts0 (.arrayOver (.object "StraightPages$Change")) (List.mem_of_getElem? (i := 97) rfl))
  obtain ⟨m11, d11, k11, f11, -, a11, e11, g11⟩ := Cond.arrayOver_spec (hts0 (.arrayOver (.object "StraightPages$Sheet")) (List.mem_of_getElem? (i := 67) rfl))
  obtain ⟨cA, q7, q8, q9, q10, q11⟩ : ∃ cA : Nat → ClassId, cA 7 = d7 ∧ cA 8 = d8 ∧ cA 9 = d9 ∧ cA 10 = d10 ∧ cA 11 = d11 := ⟨fun k => if k = 7 then d7 else if k = 8 then d8 else if k = 9 then d9 else if k = 10 then d10 else d11, rfl, rfl, rfl, rfl, rfl⟩
  have hK : Kn cA (dC, dI) s := by
    refine ⟨⟨hKc, fun k q hq => ?_⟩, fun w hw => ?_⟩
    · match k, hq with
      | 0, hq => cases hq; rw [q7]; exact ⟨fun n z => ⟨(fun k h => by cases h), k7, b7, m7, e7⟩, a7⟩
      | 1, hq => cases hq; rw [q8]; exact ⟨fun n z => ⟨(fun k h => by cases h), k8, b8, m8, e8⟩, a8⟩
      | 2, hq => cases hq; rw [q9]; exact ⟨fun n z => ⟨(fun k h => by cases h), k9, b9, m9, e9⟩, a9⟩
      | 3, hq => cases hq; rw [q10]; exact ⟨fun n z => ⟨(fun k h => by cases h), k10, a10, m10, e10⟩, k10, m10, a10, e10, f10, g10⟩
      | 4, hq => cases hq; rw [q11]; exact ⟨fun n z => ⟨(fun k h => by cases h), k11, a11, m11, e11⟩, k11, m11, a11, e11, f11, g11⟩
      | k + 5, hq => simp [tyTab] at hq
    · simp only [nwTab, List.mem_cons, List.not_mem_nil, or_false] at hw
      rcases hw with rfl | rfl | rfl | rfl | rfl | rfl
      · exact va_Nw.of rfl (hts0 _ (List.mem_of_getElem? (i := 236) rfl))
      · exact va_Nw.of rfl (hts0 _ (List.mem_of_getElem? (i := 434) rfl))
      · exact va_Nw.of rfl (hts0 _ (List.mem_of_getElem? (i := 379) rfl))
      · exact va_Nw.of rfl (hts0 _ (List.mem_of_getElem? (i := 382) rfl))
      · exact va_Nw.of rfl (hts0 _ (List.mem_of_getElem? (i := 383) rfl))
      · exact va_Nw.of rfl (hts0 _ (List.mem_of_getElem? (i := 334) rfl))
  have hKC : KnC cA (dC, dI) s := ⟨hK, va_AO.of (hts0 _ (List.mem_of_getElem? (i := 67) rfl)), va_AO.of (hts0 _ (List.mem_of_getElem? (i := 97) rfl))⟩
  have hdm : ∀ q, dm (layR s.heap.size relE) q → s.heap.size ≤ q := fun q h => by simp only [dm, layR, List.mem_range'_1] at h; exact h.1
  have hnd : ∀ q : Nat, q < s.heap.size → ¬ dm (layR s.heap.size relE) q := fun q h1 h2 => Nat.not_le.mpr h1 (hdm q h2)
  obtain ⟨s0, _, _, _, z0, -⟩ := Cond.exactly_spec (args := #[Value.ref b]) (first := s) (o := none) (s := s) (idx := []) (t := .string "StraightPages" 112) (cls := "java/lang/String") (hflat _ (by decide +kernel))
  obtain ⟨s1, _, _, _, z1, -⟩ := Cond.exactly_spec (args := #[Value.ref b]) (first := s) (o := none) (s := s) (idx := []) (t := .string "StraightPages" 195) (cls := "java/lang/String") (hflat _ (by decide +kernel))
  obtain ⟨s2, _, _, _, z2, -⟩ := Cond.exactly_spec (args := #[Value.ref b]) (first := s) (o := none) (s := s) (idx := []) (t := .string "StraightPages" 236) (cls := "java/lang/String") (hflat _ (by decide +kernel))
  have hXK0 : XK (layR s.heap.size relE) (fun k => if k = 0 then s0 else if k = 1 then s1 else s2) s s.heap := ⟨vx_Zqof (hts0 _ (List.mem_of_getElem? (i := 575) rfl)) (hts0 _ (List.mem_of_getElem? (i := 54) rfl)) (hflat _ (by decide +kernel)) hnd, vx_Zqof (hts0 _ (List.mem_of_getElem? (i := 577) rfl)) (hts0 _ (List.mem_of_getElem? (i := 54) rfl)) (hflat _ (by decide +kernel)) hnd, vk_R.of (hts0 _ (List.mem_of_getElem? (i := 587) rfl)) z0, vk_R.of (hts0 _ (List.mem_of_getElem? (i := 621) rfl)) z1, vk_R.of (hts0 _ (List.mem_of_getElem? (i := 632) rfl)) z2, fun w hw => va_Nw.of (ngW_ok w hw).2 (hts0 w (ngW_in w hw))⟩
  have hS : va_S (frm s.heap.size) s.heap s.heap [] := va_S.rf
  have hC : RepC cA (dC, dI) s.heap.size rel0 s.heap := ⟨fun k q h => by simp [layR, rel0, va_pl] at h, rfl⟩
  have hl := lv_entry ([.ref b]) (n := 8) (Nat.le_of_ble_eq_true rfl)
  rw [lg_entry_eq]
  generalize (lg_sl ([.ref b]) ++ List.replicate (8 - (lg_sl ([.ref b])).length) Slot.unset).toArray = ls at hl ⊢
  have hl : lv_has ls 8 [(0, .ref b)] := hl
  have hM2 : 601024 ≤ room_1.cells ∧ 7293034 ≤ room_1.slots := ⟨Nat.le_of_ble_eq_true rfl, Nat.le_of_ble_eq_true rfl⟩
  refine W.widen (k := rel0.1 - 0) (n := rel0.2.1 - 0) (Nat.zero_le _) (Nat.zero_le _) ?_
  refine rc_newoL X hKC hC hS hM2 5 tyX4 (C := RX4) (T := TX4) (N := 8) rfl (by decide) inlX4 tyX4_ok (by decide +kernel) (by decide +kernel) (by decide +kernel) fs_5 (by decide +kernel) dL_law_0 (fun ω1 H e1 hC hS => ?_)
  obtain rfl : ω1 = relA := e1
  refine lv_dup hx hb dL_law_3 rfl ?_
  refine rc_callL (As := []) (rest := [.ref (s.heap.size + rel0.1)]) X hKC hC hS hM2 hl.1 (c_X4_init l cA (dC, dI) s.heap.size relA 0 relB_ok) (cwI 0 hts gL_law_X4_init rfl rfl rfl (hts (.initialized RX4) (by decide +kernel)) (hts (.methodLink RL 23 yX4_init) (by decide +kernel)) (hts (.instanceMethod yX4_init) (by decide +kernel)) rfl (by decide +kernel) ⟨Nat.le_of_ble_eq_true rfl, Nat.le_of_ble_eq_true rfl⟩) rfl rfl (Nat.le_of_ble_eq_true rfl) (by decide +kernel) (by decide +kernel) dL_law_4 (fun H locs hC hS => ?_)
  refine lv_astore_n (lv' := [(1, .ref (s.heap.size + rel0.1)), (0, .ref b)]) hx hb dL_law_7 rfl hl (by decide) rfl (fun ls hl => ?_)
  refine rc_newoL X hKC hC hS hM2 6 tyX5 (C := RX5) (T := TX5) (N := 24) rfl (by decide) inlX5 tyX5_ok (by decide +kernel) (by decide +kernel) (by decide +kernel) fs_6 (by decide +kernel) dL_law_8 (fun ω1 H e1 hC hS => ?_)
  obtain rfl : ω1 = relC := e1
  refine lv_dup hx hb dL_law_11 rfl ?_
  have eB : s.heap.size + relB.1 = s.heap.size + 65 := by rw [relB_1.1]
  rw [eB]
  refine rc_callL (As := []) (rest := [.ref (s.heap.size + 65)]) X hKC hC hS hM2 hl.1 (c_X5_init l cA (dC, dI) s.heap.size relC 65 relD_ok) (cwI 0 hts gL_law_X5_init rfl rfl rfl (hts (.initialized RX5) (by decide +kernel)) (hts (.methodLink RL 26 yX5_init) (by decide +kernel)) (hts (.instanceMethod yX5_init) (by decide +kernel)) rfl (by decide +kernel) ⟨Nat.le_of_ble_eq_true rfl, Nat.le_of_ble_eq_true rfl⟩) rfl rfl (Nat.le_of_ble_eq_true rfl) (by decide +kernel) (by decide +kernel) dL_law_12 (fun H locs hC hS => ?_)
  refine lv_astore_n (lv' := [(2, .ref (s.heap.size + 65)), (1, .ref (s.heap.size + rel0.1)), (0, .ref b)]) hx hb dL_law_15 rfl hl (by decide) rfl (fun ls hl => ?_)
  refine lv_iconst (v := (1 : Int32)) hx hb dL_law_16 (by decide) ?_
  refine rc_newaL X hKC hC hS hM2 8 1 (Or.inr (Or.inl ⟨rfl, rfl, rfl⟩)) (by decide +kernel) (by decide +kernel) (by decide +kernel) dL_law_17 (fun ω1 H e1 hC hS => ?_)
  obtain rfl : ω1 = relE := e1
  have eD : s.heap.size + relD.1 = s.heap.size + 83 := by rw [relD_1.1]
  rw [eD]
  refine lv_astore_n (lv' := [(3, .ref (s.heap.size + 83)), (2, .ref (s.heap.size + 65)), (1, .ref (s.heap.size + rel0.1)), (0, .ref b)]) hx hb dL_law_19 rfl hl (by decide) rfl (fun ls hl => ?_)
  refine lv_iconst (v := (0 : Int32)) hx hb dL_law_20 (by decide) ?_
  refine lv_istore (lv' := [(4, .int 0), (3, .ref (s.heap.size + 83)), (2, .ref (s.heap.size + 65)), (1, .ref (s.heap.size + rel0.1)), (0, .ref b)]) hx hb dL_law_21 hl (by decide) rfl (fun ls hl => ?_)
  obtain ⟨eE, hE⟩ := hpure s.heap.size L xs hL
  have e84 : relE.1 - 0 = 84 ∧ relE.2.1 - 0 = 104672 := by decide +kernel
  rw [e84.1, e84.2]
  refine w_lp_L_law (Λ := layR s.heap.size relE) X hK (TL_r relE_chk) ⟨Nat.le_of_ble_eq_true rfl, Nat.le_of_ble_eq_true rfl⟩ hlt hdm hX hbl (s.heap.size + 0) (s.heap.size + 65) (s.heap.size + 83) (isK_r (by decide +kernel)) (isK_r (by decide +kernel)) (isK_r (by decide +kernel)) (fun cells slots H locs ls h1 h2 hS => ?_) FU ((0 : Int32), stoR s.heap.size relE) 84 104672 hE (Nat.le_of_ble_eq_true rfl) (Nat.le_of_ble_eq_true rfl) H locs ls hC.1 hS (hXK0.kept (fun a g1 g2 => hS.2.1 a g1 (Nat.not_le.mpr g1))) (lv_sub hl [4, 3, 2, 1, 0] rfl)
  refine lv_iconst (v := 1) hx hb dL_law_1463 (by decide) ?_
  refine va_forget (fun q hq => hS.2.2 q hq) ?_
  refine W.widen (k := 601024) (n := 7293034) h1 h2 ?_
  exact lw_ret hx hb hr hlocks dL_law_1464
