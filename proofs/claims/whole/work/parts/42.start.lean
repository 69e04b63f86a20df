/-! THE LAW'S START: what it makes; then its loop, over one round's function -/
def relA : Rel := addC rel0 5 0 8
def relB : Rel := (F_X4_init relA 0).getD rel0
def relC : Rel := addC relB 6 0 24
def relD : Rel := (F_X5_init relC 65).getD rel0
def relE : Rel := addC relD 8 1 1
theorem getD_ok {α : Type} {x : Option α} {d : α} (h : x.isSome = true) : x = some (x.getD d) := by
  cases x with
  | none => cases h
  | some q => rfl
theorem relB_ok : F_X4_init relA 0 = some relB := getD_ok (by decide +kernel)
theorem relB_1 : relB.1 = 65 ∧ relB.2.1 = 1869 := by decide +kernel
theorem relD_ok : F_X5_init relC 65 = some relD := getD_ok (by decide +kernel)
theorem relD_1 : relD.1 = 83 ∧ relD.2.1 = 104671 := by decide +kernel
/-- every reference of a cell names a cell of its kind -/
def chkTL (ω : Rel) : Bool := (List.range ω.1).all (fun k => tlTab.all (fun t => !(ω.2.2.1 k == t.1) || (match ω.2.2.2.2.1 k t.2.1 with | some r => decide (r < ω.1) && (ω.2.2.1 r == t.2.2) | none => false)) && (!(ω.2.2.1 k == 10) || (List.range (ω.2.2.2.1 k)).all (fun i => match ω.2.2.2.2.1 k i with | some r => decide (r < ω.1) && (ω.2.2.1 r == 1) | none => false)) && (!(ω.2.2.1 k == 11) || (List.range (ω.2.2.2.1 k)).all (fun i => match ω.2.2.2.2.1 k i with | some r => decide (r < ω.1) && (ω.2.2.1 r == 3) | none => false)))
theorem relE_chk : chkTL relE = true := by decide +kernel
theorem isR_r {b : Nat} {ω : Rel} {k i r kk : Nat} (h : ω.2.2.2.2.1 k i = some r) (h1 : r < ω.1) (h2 : ω.2.2.1 r = kk) : isR (layR b ω) (b + k) i kk := by
  have e : (layR b ω).2.2.2 (b + k) i = some (b + r) := by simp only [layR, Nat.add_sub_cancel_left, h]; rfl
  have e2 : rfA (layR b ω) (b + k) i = b + r := by unfold rfA; rw [e]; rfl
  refine ⟨by rw [e2]; exact e, ?_⟩
  rw [e2]
  exact isK_r (decide_eq_true ⟨h1, h2⟩)
theorem TL_r {b : Nat} {ω : Rel} (h : chkTL ω = true) : TL (layR b ω) := by
  have key : ∀ a kk, isK (layR b ω) a kk → ∃ k, a = b + k ∧ k < ω.1 ∧ ω.2.2.1 k = kk := by
    intro a kk ha
    obtain ⟨h1, h2⟩ := ha
    simp only [layR, List.mem_range'_1] at h1
    refine ⟨a - b, by omega, by omega, h2⟩
  simp only [chkTL, List.all_eq_true, List.mem_range, Bool.and_eq_true] at h
  refine ⟨nd_r b ω.1, fun t ht a ha => ?_, fun a ha i hi => ?_, fun a ha i hi => ?_⟩
  · obtain ⟨k, rfl, hk, hkk⟩ := key a _ ha
    have h1 := (h k hk).1.1 t ht
    rw [hkk] at h1
    simp only [beq_self_eq_true, Bool.not_true, Bool.false_or] at h1
    cases hr : ω.2.2.2.2.1 k t.2.1 with
    | none => rw [hr] at h1; cases h1
    | some r =>
      rw [hr] at h1
      simp only [Bool.and_eq_true, decide_eq_true_eq, beq_iff_eq] at h1
      exact isR_r hr h1.1 h1.2
  · obtain ⟨k, rfl, hk, hkk⟩ := key a _ ha
    have h1 := (h k hk).1.2
    rw [hkk] at h1
    simp only [beq_self_eq_true, Bool.not_true, Bool.false_or, List.all_eq_true, List.mem_range] at h1
    have hln : ln (layR b ω) (b + k) = ω.2.2.2.1 k := by simp only [ln, layR, Nat.add_sub_cancel_left]
    have h2 := h1 i (by rw [← hln]; exact hi)
    cases hr : ω.2.2.2.2.1 k i with
    | none => rw [hr] at h2; cases h2
    | some r =>
      rw [hr] at h2
      simp only [Bool.and_eq_true, decide_eq_true_eq, beq_iff_eq] at h2
      exact isR_r hr h2.1 h2.2
  · obtain ⟨k, rfl, hk, hkk⟩ := key a _ ha
    have h1 := (h k hk).2
    rw [hkk] at h1
    simp only [beq_self_eq_true, Bool.not_true, Bool.false_or, List.all_eq_true, List.mem_range] at h1
    have hln : ln (layR b ω) (b + k) = ω.2.2.2.1 k := by simp only [ln, layR, Nat.add_sub_cancel_left]
    have h2 := h1 i (by rw [← hln]; exact hi)
    cases hr : ω.2.2.2.2.1 k i with
    | none => rw [hr] at h2; cases h2
    | some r =>
      rw [hr] at h2
      simp only [Bool.and_eq_true, decide_eq_true_eq, beq_iff_eq] at h2
      exact isR_r hr h2.1 h2.2
section RCL
variable {p : Program} {l : Launch} {e : Env} {R : Room} {s : State} {m : MethodId} {args : Array Value} {below : List Frame} {meth : Method} {c : Code} {H : Heap} {locs : List Loc} {Q : State → Prop}
variable {cc : ByteArray} {ret : Option FieldType} {nL : Nat} {own : String} {Ts : List Cond} {cA : Nat → ClassId} {D : va_G} {b n0 t0 MC MS : Nat} {ω : Rel} {pc : Nat} {ls : Array Slot} {rest st0 : List Value} {a : Nat}
theorem rc_newoL (X : Cx cc ret nL own Ts p s m args meth c) (hK : KnC cA D s) (hC : RepC cA D b ω H) (hS : va_S (frm b) s.heap H locs) (hM : MC ≤ R.cells ∧ MS ≤ R.slots) (kk : Nat) {C : String} {T : u_T} {N index : Nat} (ty : Nat → FieldType) (hc : vwCl[kk - 1]? = some (C, T, N)) (h7 : 0 < kk ∧ kk < 7) (hin : ∀ w ∈ u_ws C T N, w ∈ Ts) (hty : ∀ k, k < N → parseFieldDescriptor (T k).2.2.1 = some (ty k)) (hl : Cond.classLink own index C ∈ Ts) (hi : Cond.instantiable C N ∈ Ts) (hini : Cond.initialized C ∈ Ts)
    (hfs : ∀ (Λ : Lay) (σ : Sto) (q : Nat), (Λ.2.2.2 q = fun _ => none) → (σ.1 q = fun _ => 0) → (σ.2 q = fun _ => 0) → ∀ j, j < N → defaultValue (ty j) = vp_V (fl kk Λ σ q) j) (hg : gr ω n0 t0 MC MS 1 N = true) (hdg : decode cc pc = .ok (.new index, 3))
    (kk1 : ∀ (ω1 : Rel) (H1 : Heap), ω1 = addC ω kk 0 N → RepC cA D b ω1 H1 → va_S (frm b) s.heap H1 locs → W p l e R s m args below meth c H1 locs (ω1.1 - n0) (ω1.2.1 - t0) Q (F0 m (pc + 3) ls (.ref (b + ω.1) :: rest))) : W p l e R s m args below meth c H locs (ω.1 - n0) (ω.2.1 - t0) Q (F0 m pc ls rest) := by
  obtain ⟨hx, hb, -, -, hown, hts, -⟩ := X
  obtain ⟨g1, g2, g3, g4⟩ := of_decide_eq_true hg
  have hKn := hK.1.1.1 (kk - 1) _ hc
  refine W.newcK hx hb hown (hts _ hl) (hts _ hi) (hts _ hini) rfl hdg (by omega) (by omega) hKn.2.1 rfl fun H1 kC hkC e1 z1 o1 => ?_
  refine W.widen (k := (addC ω kk 0 N).1 - n0) (n := (addC ω kk 0 N).2.1 - t0) (nsub g1) (nsub g2) ?_
  have hz : H.size = b + ω.1 := hC.2
  rw [hz]
  refine kk1 _ H1 rfl (rc_push hC ?_ z1 o1) (frm_push hS z1 o1)
  have hkd : kd (layR b (addC ω kk 0 N)) (b + ω.1) = kk := by simp only [kd, layR, addC, Nat.add_sub_cancel_left, va_up_self]
  rw [ent_o hkd h7.2]
  refine ⟨_, hc, ?_⟩
  rw [← hz]
  refine (u_born ty hts hin hKn hkC e1 hty).to (hfs _ _ _ ?_ ?_ ?_)
  · funext k; simp only [layR, addC, hz, Nat.add_sub_cancel_left, va_up_self]; rfl
  · funext k; simp only [stoR, addC, hz, Nat.add_sub_cancel_left, va_up_self]
  · funext k; simp only [stoR, addC, hz, Nat.add_sub_cancel_left, va_up_self]
theorem rc_newaL (X : Cx cc ret nL own Ts p s m args meth c) (hK : KnC cA D s) (hC : RepC cA D b ω H) (hS : va_S (frm b) s.heap H locs) (hM : MC ≤ R.cells ∧ MS ≤ R.slots) (kk t : Nat) {atype : ArrayType} {n : Int32} (hk : (kk = 7 ∧ atype = .int ∧ t = 0) ∨ (kk = 8 ∧ atype = .long ∧ t = 1) ∨ (kk = 9 ∧ atype = .boolean ∧ t = 2)) (hw : Cond.arrayClass (newarray.typeOf atype) ∈ Ts) (hgl : gl n = true) (hg : gr ω n0 t0 MC MS 1 n.toNatClampNeg = true) (hdg : decode cc pc = .ok (.newarray atype, 2))
    (kk1 : ∀ (ω1 : Rel) (H1 : Heap), ω1 = addC ω kk n.toNatClampNeg n.toNatClampNeg → RepC cA D b ω1 H1 → va_S (frm b) s.heap H1 locs → W p l e R s m args below meth c H1 locs (ω1.1 - n0) (ω1.2.1 - t0) Q (F0 m (pc + 2) ls (.ref (b + ω.1) :: rest))) : W p l e R s m args below meth c H locs (ω.1 - n0) (ω.2.1 - t0) Q (F0 m pc ls (.int n :: rest)) := by
  obtain ⟨hx, hb, -, -, hown, hts, -⟩ := X
  obtain ⟨g1, g2, g3, g4⟩ := of_decide_eq_true hg
  obtain ⟨l1, l2⟩ := of_decide_eq_true hgl
  have hz : H.size = b + ω.1 := hC.2
  refine va_newaK hx hb (hts _ hw) rfl hdg rfl l1 rfl (by rcases hk with ⟨-, rfl, -⟩ | ⟨-, rfl, -⟩ | ⟨-, rfl, -⟩ <;> simp [newarray.typeOf, componentBytes] <;> omega) (by omega) (by omega) hz fun H1 cA1 e1 z1 o1 hAr hNm => ?_
  refine W.widen (k := (addC ω kk n.toNatClampNeg n.toNatClampNeg).1 - n0) (n := (addC ω kk n.toNatClampNeg n.toNatClampNeg).2.1 - t0) (nsub g1) (nsub g2) ?_
  rw [← hz] at e1 z1 o1
  refine kk1 _ H1 rfl (rc_push hC ?_ z1 o1) (frm_push hS z1 o1)
  have hcA : cA1 = cA kk := by
    rcases hk with ⟨rfl, rfl, rfl⟩ | ⟨rfl, rfl, rfl⟩ | ⟨rfl, rfl, rfl⟩
    · exact Option.some.inj (hNm.symm.trans (hK.1.1.2 0 _ rfl).2)
    · exact Option.some.inj (hNm.symm.trans (hK.1.1.2 1 _ rfl).2)
    · exact Option.some.inj (hNm.symm.trans (hK.1.1.2 2 _ rfl).2)
  have hkd : kd (layR b (addC ω kk n.toNatClampNeg n.toNatClampNeg)) (b + ω.1) = kk := by simp only [kd, layR, addC, Nat.add_sub_cancel_left, va_up_self]
  have hln : ln (layR b (addC ω kk n.toNatClampNeg n.toNatClampNeg)) (b + ω.1) = n.toNatClampNeg := by simp only [ln, layR, addC, Nat.add_sub_cancel_left, va_up_self]
  have hI : (stoR b (addC ω kk n.toNatClampNeg n.toNatClampNeg)).1 (b + ω.1) = fun _ => 0 := by funext k; simp only [stoR, addC, Nat.add_sub_cancel_left, va_up_self]
  have hJ : (stoR b (addC ω kk n.toNatClampNeg n.toNatClampNeg)).2 (b + ω.1) = fun _ => 0 := by funext k; simp only [stoR, addC, Nat.add_sub_cancel_left, va_up_self]
  rw [hz] at e1
  rcases hk with ⟨rfl, rfl, rfl⟩ | ⟨rfl, rfl, rfl⟩ | ⟨rfl, rfl, rfl⟩
  · rw [ent_7 hkd, hln, hI]; show H1[b + ω.1]? = some (vp_cell _ _); rw [e1, hcA]; rfl
  · rw [ent_8 hkd, hln, hJ]; show H1[b + ω.1]? = some (vp_cell _ _); rw [e1, hcA]; rfl
  · rw [ent_9 hkd, hln, hI]; show H1[b + ω.1]? = some (vp_cell _ _); rw [e1, hcA]; rfl
theorem rc_callL {y : MethodName} {ws : List Cond} {rm : Room} {As : List Value} {ω1 : Rel} {k mc ms n index maxL : Nat} {bytes : ByteArray} (X : Cx cc ret nL own Ts p s m args meth c) (hK : KnC cA D s) (hC : RepC cA D b ω H) (hS : va_S (frm b) s.heap H locs) (hM : MC ≤ R.cells ∧ MS ≤ R.slots) (hls : ls.size = nL) (hMet : Met l y ws rm (va_Pc (.ref (b + k) :: As) (PC cA D b ω)) (QC cA D b ω1) mc ms (frm b)) (cw : CallB R s args own index y bytes maxL none ws rm mc ms n ∧ y.name = "<init>" ∧ (Cond.instanceMethod y).before args s = true) (hn : As.length = n) (hst : st0 = As.reverse ++ .ref (b + k) :: rest) (hW : (rest.map fun v => v.category).sum ≤ 8) (hg : gr ω n0 t0 MC MS mc ms = true) (he : ge ω ω1 mc ms = true) (hdg : decode cc pc = .ok (.invokespecial index, 3))
    (kk1 : ∀ (H1 : Heap) (locs1 : List Loc), RepC cA D b ω1 H1 → va_S (frm b) s.heap H1 locs1 → W p l e R s m args below meth c H1 locs1 (ω1.1 - n0) (ω1.2.1 - t0) Q (F0 m (pc + 3) ls rest)) : W p l e R s m args below meth c H locs (ω.1 - n0) (ω.2.1 - t0) Q (F0 m pc ls st0) := by
  obtain ⟨g1, g2, g3, g4⟩ := of_decide_eq_true hg
  obtain ⟨g5, g6⟩ := of_decide_eq_true he
  refine va_callv (va_runI (Ts := Ts) ⟨X.1, X.2.1, X.2.2.2.1, X.2.2.2.2.1, X.2.2.2.2.2.1⟩ hMet cw ⟨PC.blind, fun U hU hW1 => ⟨rfl, by rw [hU]; exact hC, hK.warm hW1⟩⟩ rfl hn hls hst (lv_room hW) hdg ⟨by omega, by omega⟩) hS (fun _ _ h => h) (fun _ h => h) (fun u t H1 locs1 ht _ hp hB _ _ hS1 => ?_)
  subst hp
  refine W.widen (k := u.1 - n0) (n := u.2.1 - t0) (by omega) (by omega) ?_
  exact kk1 H1 locs1 (by rw [← ht]; exact hB) hS1
end RCL
section LLP
variable {p : Program} {l : Launch} {e : Env} {R : Room} {s : State} {m : MethodId} {below : List Frame} {meth : Method} {c : Code} {Q : State → Prop} {cA : Nat → ClassId} {D : va_G} {Λ : Lay} {sa : Nat → Nat} {b L : Nat} {xs : Nat → Int32}
set_option maxHeartbeats 4000000 in
theorem w_lp_L_law (X : Cx cL_law (some .boolean) 8 RL wsL_law p s m #[Value.ref b] meth c) (hK : Kn cA D s) (hT : TL Λ) (hM : 8 ≤ R.frames ∧ 175 ≤ R.locals) (hlt : l.stackTraces = false) (hdm : ∀ q, dm Λ q → s.heap.size ≤ q) (hX : va_X b L xs s s.heap) (hbl : b < s.heap.size) (a1 a2 a3 : Nat) (k1 : isK Λ a1 5) (k2 : isK Λ a2 6) (k3 : isK Λ a3 8) {e9 : Sto}
    (kx : ∀ (cells slots : Nat) (H : Heap) (locs : List Loc) (ls : Array Slot), cells ≤ R.cells → slots ≤ R.slots → va_S (frm s.heap.size) s.heap H locs → W p l e R s m #[Value.ref b] below meth c H locs cells slots Q (F0 m 1463 ls [])) :
    ∀ (n : Nat) (s9 : Int32 × Sto) (cells slots : Nat), iter (bd_L_law Λ xs L a1 a2 a3) n s9 = some e9 → cells + n ≤ R.cells → slots + 6 * n ≤ R.slots → ∀ (H : Heap) (locs : List Loc) (ls : Array Slot), Rep cA D Λ s9.2 H → va_S (frm s.heap.size) s.heap H locs → XK Λ sa s H → lv_has ls 8 [(0, .ref b), (1, .ref a1), (2, .ref a2), (3, .ref a3), (4, .int s9.1)] → W p l e R s m #[Value.ref b] below meth c H locs cells slots Q (F0 m 23 ls []) := by
  intro n
  induction n with
  | zero => intro s9 cells slots h; cases h
  | succ n ih =>
    intro s9 cells slots h hc hs H locs ls hR hS hXK hl
    obtain ⟨r, hr, h⟩ := of_iter h
    refine w_bd_L_law X hK hT hM hlt hdm hX hbl ⟨by omega, by omega⟩ a1 a2 a3 k1 k2 k3 s9 hr (fun z ez H locs ls hR hS hXK hl => ?_) (fun z ez H locs ls hR hS hXK hl => ?_) H locs ls hR hS hXK hl
    · exact ih z (cells + 1) (slots + 6) (of_itl ez h) (by omega) (by omega) H locs ls hR hS hXK hl
    · exact kx (cells + 1) (slots + 6) H locs ls (by omega) (by omega) hS
end LLP
