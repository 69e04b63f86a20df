/-! THE MACHINE'S ROWS FOR CONSTRUCTORS -/
def RepC (cA : Nat → ClassId) (D : va_G) (b : Nat) (ω : Rel) (H : Heap) : Prop := Rep cA D (layR b ω) (stoR b ω) H ∧ H.size = b + ω.1
def KnC (cA : Nat → ClassId) (D : va_G) (U : State) : Prop := Kn cA D U ∧ va_AO "StraightPages$Sheet" U ∧ va_AO "StraightPages$Change" U
theorem KnC.warm {cA : Nat → ClassId} {D : va_G} {s U : State} (hW : s.WarmedH U.vm) (h : KnC cA D s) : KnC cA D U := ⟨h.1.warm hW, h.2.1.moved hW.alike, h.2.2.moved hW.alike⟩
def PC (cA : Nat → ClassId) (D : va_G) (b : Nat) (ω : Rel) : State → Prop := fun U => RepC cA D b ω U.heap ∧ KnC cA D U
abbrev frm (b : Nat) : Nat → Prop := fun q => b ≤ q
def QC (cA : Nat → ClassId) (D : va_G) (b : Nat) (ω : Rel) : Array Value → State → Outcome → State → Prop := va_Qv (fun (u : Rel) => u = ω) (fun u t => RepC cA D b u t.heap) (frm b)
theorem PC.blind {cA : Nat → ClassId} {D : va_G} {b : Nat} {ω : Rel} {av : List Value} : FrameBlind (va_Pc av (PC cA D b ω)) := fun a U g mk q => ⟨q.1, q.2.1, q.2.2.1.calling, q.2.2.2.1.moved (Vm.Alike.refl U.vm), q.2.2.2.2.moved (Vm.Alike.refl U.vm)⟩
def CxI (cc : ByteArray) (nL : Nat) (own : String) (Ts : List Cond) (p : Program) (s : State) (m : MethodId) (args : Array Value) (meth : Method) (c : Code) : Prop :=
  p.tables.exec = Jvm.exec ∧ c.code = cc ∧ meth.sig.returnType = none ∧ c.maxLocals = nL ∧ s.vm.findClass own = some m.cls ∧ (∀ w ∈ Ts, w.before args s = true) ∧ meth.locks = false ∧ meth.name = "<init>"
theorem nd_r (b n : Nat) : (List.range' b n).Nodup := List.nodup_range'
theorem dD_r {b : Nat} {ω : Rel} (f : Nat → va_E) : va_D (frm b) (va_pl (layR b ω).1 f) := by
  have h := dD (nd_r b ω.1) f
  refine ⟨h.1, fun k q hk => ?_⟩
  have h2 := h.2 k q hk
  simp only [List.mem_range'_1] at h2
  exact h2.1
theorem ent_new {cA : Nat → ClassId} {b : Nat} {ω : Rel} {kk len sl : Nat} : va_pl (layR b (addC ω kk len sl)).1 (ent cA (layR b (addC ω kk len sl)) (stoR b (addC ω kk len sl))) = va_pl (layR b ω).1 (ent cA (layR b ω) (stoR b ω)) ++ [(b + ω.1, ent cA (layR b (addC ω kk len sl)) (stoR b (addC ω kk len sl)) (b + ω.1))] := by
  have h1 : (layR b (addC ω kk len sl)).1 = (layR b ω).1 ++ [b + ω.1] := by simp only [layR, addC]; rw [List.range'_concat]; simp
  rw [h1]
  simp only [va_pl, List.map_append, List.map_cons, List.map_nil]
  congr 1
  apply List.map_congr_left
  intro a ha
  have hlt : a - b ≠ ω.1 := by simp only [layR, List.mem_range'_1] at ha; omega
  have e : ent cA (layR b (addC ω kk len sl)) (stoR b (addC ω kk len sl)) a = ent cA (layR b ω) (stoR b ω) a := by
    unfold ent fl
    simp only [kd, ln, layR, stoR, addC, va_up_ne _ _ hlt]
  rw [e]
theorem nsub {a b c : Nat} (h : c ≤ a) : a - c + b ≤ a + b - c := by omega
section RC
variable {p : Program} {l : Launch} {e : Env} {R : Room} {s : State} {m : MethodId} {args : Array Value} {below : List Frame} {meth : Method} {c : Code} {H : Heap} {locs : List Loc} {Q : State → Prop}
variable {cc : ByteArray} {nL : Nat} {own : String} {Ts : List Cond} {cA : Nat → ClassId} {D : va_G} {b n0 t0 MC MS : Nat} {ω : Rel} {pc : Nat} {ls : Array Slot} {rest st0 : List Value} {a : Nat}
theorem rc_push {H1 : Heap} {kk len sl : Nat} (hC : RepC cA D b ω H) (hn : va_at D vwCl (b + ω.1, ent cA (layR b (addC ω kk len sl)) (stoR b (addC ω kk len sl)) (b + ω.1)) H1) (hz : H1.size = H.size + 1) (ho : ∀ q, q < H.size → H1[q]? = H[q]?) : RepC cA D b (addC ω kk len sl) H1 := by
  refine ⟨?_, by rw [hz, hC.2]; rfl⟩
  unfold Rep
  rw [ent_new]
  refine (va_P.kept hC.1 (fun k x hx => ho x.1 ((hC.1 k x hx).lt))).app (fun k x hx => ?_)
  have h1 : k < 1 := (List.getElem?_eq_some_iff.mp hx).1
  rw [show k = 0 by omega] at hx
  cases hx
  exact hn
theorem frm_push {H1 : Heap} (hS : va_S (frm b) s.heap H locs) (hz : H1.size = H.size + 1) (ho : ∀ q, q < H.size → H1[q]? = H[q]?) : va_S (frm b) s.heap H1 locs :=
  ⟨Nat.le_trans hS.1 (by omega), fun x h1 h2 => (ho x (Nat.lt_of_lt_of_le h1 hS.1)).trans (hS.2.1 x h1 h2), hS.2.2⟩
theorem rc_newo (X : CxI cc nL own Ts p s m args meth c) (hK : KnC cA D s) (hC : RepC cA D b ω H) (hS : va_S (frm b) s.heap H locs) (hM : MC ≤ R.cells ∧ MS ≤ R.slots) (kk : Nat) {C : String} {T : u_T} {N index : Nat} (ty : Nat → FieldType) (hc : vwCl[kk - 1]? = some (C, T, N)) (h7 : 0 < kk ∧ kk < 7) (hin : ∀ w ∈ u_ws C T N, w ∈ Ts) (hty : ∀ k, k < N → parseFieldDescriptor (T k).2.2.1 = some (ty k)) (hl : Cond.classLink own index C ∈ Ts) (hi : Cond.instantiable C N ∈ Ts) (hini : Cond.initialized C ∈ Ts)
    (hfs : ∀ (Λ : Lay) (σ : Sto) (q : Nat), (Λ.2.2.2 q = fun _ => none) → (σ.1 q = fun _ => 0) → (σ.2 q = fun _ => 0) → ∀ j, j < N → defaultValue (ty j) = vp_V (fl kk Λ σ q) j) (hg : gr ω n0 t0 MC MS 1 N = true) (hdg : decode cc pc = .ok (.new index, 3))
    (kk1 : ∀ (ω1 : Rel) (H1 : Heap), ω1 = addC ω kk 0 N → RepC cA D b ω1 H1 → va_S (frm b) s.heap H1 locs → W p l e R s m args below meth c H1 locs (ω1.1 - n0) (ω1.2.1 - t0) Q (F0 m (pc + 3) ls (.ref (b + ω.1) :: rest))) : W p l e R s m args below meth c H locs (ω.1 - n0) (ω.2.1 - t0) Q (F0 m pc ls rest) := by
  obtain ⟨hx, hb, -, -, hown, hts, -, -⟩ := X
  obtain ⟨g1, g2, g3, g4⟩ := of_decide_eq_true hg
  have hKn := hK.1.1.1 (kk - 1) _ hc
  refine W.newcK hx hb hown (hts _ hl) (hts _ hi) (hts _ hini) rfl hdg (by omega) (by omega) hKn.2.1 rfl fun H1 kC hkC e1 z1 o1 => ?_
  refine W.widen (k := (addC ω kk 0 N).1 - n0) (n := (addC ω kk 0 N).2.1 - t0) (nsub g1) (nsub g2) ?_
  have hz : H.size = b + ω.1 := hC.2
  rw [hz]
  refine kk1 _ H1 rfl (rc_push hC ?_ z1 o1) (frm_push hS z1 o1)
  have hkd : kd (layR b (addC ω kk 0 N)) (b + ω.1) = kk := by simp only [kd, layR, addC, Nat.add_sub_cancel_left, va_up_self]
  rw [ent_o hkd h7.2]
  refine ⟨_, hc, ?_⟩
  rw [← hz]
  refine (u_born ty hts hin hKn hkC e1 hty).to (hfs _ _ _ ?_ ?_ ?_)
  · funext k; simp only [layR, addC, hz, Nat.add_sub_cancel_left, va_up_self]; rfl
  · funext k; simp only [stoR, addC, hz, Nat.add_sub_cancel_left, va_up_self]
  · funext k; simp only [stoR, addC, hz, Nat.add_sub_cancel_left, va_up_self]
theorem rc_newa (X : CxI cc nL own Ts p s m args meth c) (hK : KnC cA D s) (hC : RepC cA D b ω H) (hS : va_S (frm b) s.heap H locs) (hM : MC ≤ R.cells ∧ MS ≤ R.slots) (kk t : Nat) {atype : ArrayType} {n : Int32} (hk : (kk = 7 ∧ atype = .int ∧ t = 0) ∨ (kk = 8 ∧ atype = .long ∧ t = 1) ∨ (kk = 9 ∧ atype = .boolean ∧ t = 2)) (hw : Cond.arrayClass (newarray.typeOf atype) ∈ Ts) (hgl : gl n = true) (hg : gr ω n0 t0 MC MS 1 n.toNatClampNeg = true) (hdg : decode cc pc = .ok (.newarray atype, 2))
    (kk1 : ∀ (ω1 : Rel) (H1 : Heap), ω1 = addC ω kk n.toNatClampNeg n.toNatClampNeg → RepC cA D b ω1 H1 → va_S (frm b) s.heap H1 locs → W p l e R s m args below meth c H1 locs (ω1.1 - n0) (ω1.2.1 - t0) Q (F0 m (pc + 2) ls (.ref (b + ω.1) :: rest))) : W p l e R s m args below meth c H locs (ω.1 - n0) (ω.2.1 - t0) Q (F0 m pc ls (.int n :: rest)) := by
  obtain ⟨hx, hb, -, -, hown, hts, -, -⟩ := X
  obtain ⟨g1, g2, g3, g4⟩ := of_decide_eq_true hg
  obtain ⟨l1, l2⟩ := of_decide_eq_true hgl
  have hz : H.size = b + ω.1 := hC.2
  refine va_newaK hx hb (hts _ hw) rfl hdg rfl l1 rfl (by rcases hk with ⟨-, rfl, -⟩ | ⟨-, rfl, -⟩ | ⟨-, rfl, -⟩ <;> simp [newarray.typeOf, componentBytes] <;> omega) (by omega) (by omega) hz fun H1 cA1 e1 z1 o1 hAr hNm => ?_
  refine W.widen (k := (addC ω kk n.toNatClampNeg n.toNatClampNeg).1 - n0) (n := (addC ω kk n.toNatClampNeg n.toNatClampNeg).2.1 - t0) (nsub g1) (nsub g2) ?_
  rw [← hz] at e1 z1 o1
  refine kk1 _ H1 rfl (rc_push hC ?_ z1 o1) (frm_push hS z1 o1)
  have hcA : cA1 = cA kk := by
    rcases hk with ⟨rfl, rfl, rfl⟩ | ⟨rfl, rfl, rfl⟩ | ⟨rfl, rfl, rfl⟩
    · exact Option.some.inj (hNm.symm.trans (hK.1.1.2 0 _ rfl).2)
    · exact Option.some.inj (hNm.symm.trans (hK.1.1.2 1 _ rfl).2)
    · exact Option.some.inj (hNm.symm.trans (hK.1.1.2 2 _ rfl).2)
  have hkd : kd (layR b (addC ω kk n.toNatClampNeg n.toNatClampNeg)) (b + ω.1) = kk := by simp only [kd, layR, addC, Nat.add_sub_cancel_left, va_up_self]
  have hln : ln (layR b (addC ω kk n.toNatClampNeg n.toNatClampNeg)) (b + ω.1) = n.toNatClampNeg := by simp only [ln, layR, addC, Nat.add_sub_cancel_left, va_up_self]
  have hI : (stoR b (addC ω kk n.toNatClampNeg n.toNatClampNeg)).1 (b + ω.1) = fun _ => 0 := by funext k; simp only [stoR, addC, Nat.add_sub_cancel_left, va_up_self]
  have hJ : (stoR b (addC ω kk n.toNatClampNeg n.toNatClampNeg)).2 (b + ω.1) = fun _ => 0 := by funext k; simp only [stoR, addC, Nat.add_sub_cancel_left, va_up_self]
  rw [hz] at e1
  rcases hk with ⟨rfl, rfl, rfl⟩ | ⟨rfl, rfl, rfl⟩ | ⟨rfl, rfl, rfl⟩
  · rw [ent_7 hkd, hln, hI]; show H1[b + ω.1]? = some (vp_cell _ _); rw [e1, hcA]; rfl
  · rw [ent_8 hkd, hln, hJ]; show H1[b + ω.1]? = some (vp_cell _ _); rw [e1, hcA]; rfl
  · rw [ent_9 hkd, hln, hI]; show H1[b + ω.1]? = some (vp_cell _ _); rw [e1, hcA]; rfl
theorem rc_newq (X : CxI cc nL own Ts p s m args meth c) (hK : KnC cA D s) (hC : RepC cA D b ω H) (hS : va_S (frm b) s.heap H locs) (hM : MC ≤ R.cells ∧ MS ≤ R.slots) (kk t : Nat) {C : String} {index : Nat} {n : Int32} (hk : (kk = 10 ∧ C = "StraightPages$Change" ∧ t = 3) ∨ (kk = 11 ∧ C = "StraightPages$Sheet" ∧ t = 4)) (hl : Cond.classLink own index C ∈ Ts) (hgl : gl n = true) (hg : gr ω n0 t0 MC MS 1 n.toNatClampNeg = true) (hdg : decode cc pc = .ok (.anewarray index, 3))
    (kk1 : ∀ (ω1 : Rel) (H1 : Heap), ω1 = addC ω kk n.toNatClampNeg n.toNatClampNeg → RepC cA D b ω1 H1 → va_S (frm b) s.heap H1 locs → W p l e R s m args below meth c H1 locs (ω1.1 - n0) (ω1.2.1 - t0) Q (F0 m (pc + 3) ls (.ref (b + ω.1) :: rest))) : W p l e R s m args below meth c H locs (ω.1 - n0) (ω.2.1 - t0) Q (F0 m pc ls (.int n :: rest)) := by
  obtain ⟨hx, hb, -, -, hown, hts, -, -⟩ := X
  obtain ⟨g1, g2, g3, g4⟩ := of_decide_eq_true hg
  obtain ⟨l1, l2⟩ := of_decide_eq_true hgl
  have hz : H.size = b + ω.1 := hC.2
  have hover : va_AO C s := by
    rcases hk with ⟨-, rfl, -⟩ | ⟨-, rfl, -⟩
    · exact hK.2.2
    · exact hK.2.1
  refine W.anew hx hb hown (hts _ hl) (va_AO.use hover) rfl hdg rfl l1 (by omega) (by omega) (by omega) fun cA1 kA comp f1 f2 f3 f4 => ?_
  generalize hH1 : H.push ({ cls := cA1, slots := Array.replicate n.toNatClampNeg .null, vm := .none } : Cell) = H1
  have z1 : H1.size = H.size + 1 := by rw [← hH1, Array.size_push]
  have e1 : H1[H.size]? = some (arrV cA1 n.toNatClampNeg (fun _ => .null)) := by rw [← hH1, Array.getElem?_push_size, ← arrV_new]
  have o1 : ∀ q : Nat, q < H.size → H1[q]? = H[q]? := fun q hq => by rw [← hH1, Array.getElem?_push, if_neg (Nat.ne_of_lt hq)]
  refine W.widen (k := (addC ω kk n.toNatClampNeg n.toNatClampNeg).1 - n0) (n := (addC ω kk n.toNatClampNeg n.toNatClampNeg).2.1 - t0) (nsub g1) (nsub g2) ?_
  rw [hz]
  refine kk1 _ H1 rfl (rc_push hC ?_ z1 o1) (frm_push hS z1 o1)
  have hcA : cA1 = cA kk := by
    rcases hk with ⟨rfl, rfl, rfl⟩ | ⟨rfl, rfl, rfl⟩
    · obtain ⟨kA2, comp2, -, -, -, h4⟩ := (hK.1.1.2 3 _ rfl).2
      exact Option.some.inj (f1.symm.trans h4)
    · obtain ⟨kA2, comp2, -, -, -, h4⟩ := (hK.1.1.2 4 _ rfl).2
      exact Option.some.inj (f1.symm.trans h4)
  have hkd : kd (layR b (addC ω kk n.toNatClampNeg n.toNatClampNeg)) (b + ω.1) = kk := by simp only [kd, layR, addC, Nat.add_sub_cancel_left, va_up_self]
  have hln : ln (layR b (addC ω kk n.toNatClampNeg n.toNatClampNeg)) (b + ω.1) = n.toNatClampNeg := by simp only [ln, layR, addC, Nat.add_sub_cancel_left, va_up_self]
  have hRf : (layR b (addC ω kk n.toNatClampNeg n.toNatClampNeg)).2.2.2 (b + ω.1) = fun _ => none := by funext k; simp only [layR, addC, Nat.add_sub_cancel_left, va_up_self]; rfl
  rw [hz] at e1
  rcases hk with ⟨rfl, rfl, rfl⟩ | ⟨rfl, rfl, rfl⟩
  · rw [ent_10 hkd, hln, hRf]; show H1[b + ω.1]? = some (vp_cell _ _); rw [e1, hcA]; rfl
  · rw [ent_11 hkd, hln, hRf]; show H1[b + ω.1]? = some (vp_cell _ _); rw [e1, hcA]; rfl
theorem ent_off {ω1 : Rel} {x : va_E} (h1 : ω1.1 = ω.1) (hk : ω1.2.2.1 = ω.2.2.1) (hn : ω1.2.2.2.1 = ω.2.2.2.1) (ho : ∀ j, j ≠ a → ω1.2.2.2.2.1 j = ω.2.2.2.2.1 j ∧ ω1.2.2.2.2.2.1 j = ω.2.2.2.2.2.1 j ∧ ω1.2.2.2.2.2.2 j = ω.2.2.2.2.2.2 j) (he : ent cA (layR b ω1) (stoR b ω1) (b + a) = x) : ∀ q, va_pl (layR b ω).1 (va_up (ent cA (layR b ω) (stoR b ω)) (b + a) x) = q → va_pl (layR b ω1).1 (ent cA (layR b ω1) (stoR b ω1)) = q := by
  intro q hq
  rw [← hq]
  have e1 : (layR b ω1).1 = (layR b ω).1 := by simp only [layR, h1]
  rw [e1]
  simp only [va_pl]
  apply List.map_congr_left
  intro z hz
  have hb : b ≤ z := by simp only [layR, List.mem_range'_1] at hz; exact hz.1
  by_cases hza : z = b + a
  · subst hza; rw [va_up_self, he]
  · rw [va_up_ne _ _ hza]
    have hj : z - b ≠ a := by omega
    obtain ⟨o1, o2, o3⟩ := ho _ hj
    have e2 : ent cA (layR b ω1) (stoR b ω1) z = ent cA (layR b ω) (stoR b ω) z := by
      unfold ent fl
      simp only [kd, ln, layR, stoR, hk, hn, o1, o2, o3]
    rw [e2]
theorem rep_set {ω1 : Rel} {x : va_E} {k : Nat} {H1 : Heap} (h1 : ω1.1 = ω.1) (hk : ω1.2.2.1 = ω.2.2.1) (hn : ω1.2.2.2.1 = ω.2.2.2.1) (ho : ∀ j, j ≠ a → ω1.2.2.2.2.1 j = ω.2.2.2.2.1 j ∧ ω1.2.2.2.2.2.1 j = ω.2.2.2.2.2.1 j ∧ ω1.2.2.2.2.2.2 j = ω.2.2.2.2.2.2 j) (he : ent cA (layR b ω1) (stoR b ω1) (b + a) = x) (hm : b + a ∈ (layR b ω).1) (hq : (va_pl (layR b ω).1 (ent cA (layR b ω) (stoR b ω)))[k]? = some (b + a, ent cA (layR b ω) (stoR b ω) (b + a))) (hP : va_P D vwCl ((va_pl (layR b ω).1 (ent cA (layR b ω) (stoR b ω))).set k (b + a, x)) H1) : Rep cA D (layR b ω1) (stoR b ω1) H1 := by
  rw [pl_set (L := (layR b ω).1) (g := va_up (ent cA (layR b ω) (stoR b ω)) (b + a) x) (show (layR b ω).1.Nodup from nd_r b ω.1) hm hq (fun _ => rfl)] at hP
  unfold Rep
  rw [ent_off h1 hk hn ho he _ rfl]
  exact hP
theorem rc_size {H1 : Heap} {locs1 : List Loc} (X : va_S (frm b) H H1 locs1) : H.size ≤ H1.size := X.1
theorem rc_putI (X : CxI cc nL own Ts p s m args meth c) (hK : KnC cA D s) (hC : RepC cA D b ω H) (hS : va_S (frm b) s.heap H locs) (kk k : Nat) {C ref : String} {T : u_T} {N index : Nat} {v : Int32} (ty0 : Nat → FieldType) (hgq : gq ω a kk = true) (ht : (kk, k) ∈ iTab) (hc : vwCl[kk - 1]? = some (C, T, N)) (hk : k < N) (hin : ∀ w ∈ u_ws C T N, w ∈ Ts) (hty : ∀ k, k < N → parseFieldDescriptor (T k).2.2.1 = some (ty0 k)) (hnm : ∀ a, a < N → ∀ b, b < N → a ≠ b → (T a).2.1 ≠ (T b).2.1) (hl : Cond.fieldLink own index ref (T k).2.1 (T k).2.2.1 ∈ Ts) (hs : (T k).1 = ref) (hfin : (T k).2.2.2 = false) (hd : parseFieldDescriptor (T k).2.2.1 = some .int) (hdg : decode cc pc = .ok (.putfield index, 3))
    (kk1 : ∀ (ω1 : Rel) (H1 : Heap) (locs1 : List Loc), ω1 = relI ω a k v → RepC cA D b ω1 H1 → va_S (frm b) s.heap H1 locs1 → W p l e R s m args below meth c H1 locs1 (ω1.1 - n0) (ω1.2.1 - t0) Q (F0 m (pc + 3) ls rest)) : W p l e R s m args below meth c H locs (ω.1 - n0) (ω.2.1 - t0) Q (F0 m pc ls (.int v :: .ref (b + a) :: rest)) := by
  obtain ⟨hx, hb, -, -, hown, hts, -, -⟩ := X
  have h0 := isK_r (b := b) hgq
  obtain ⟨q, hq⟩ := pl_at (f := ent cA (layR b ω) (stoR b ω)) h0.1
  obtain ⟨hv, hlen, h7⟩ := fl_setI (Λ := layR b ω) (σ := stoR b ω) (a := b + a) (v := v) ht
  have hq2 := hq
  rw [ent_o h0.2 h7] at hq2
  have hap := va_apart (own := own) hts hin ty0 hty hnm hK.1.1 hc
  obtain ⟨r, r1, cell, q1, q2, q3, q4⟩ := hC.1 q _ hq2
  have hr : r = (C, T, N) := Option.some.inj (r1.symm.trans hc)
  subst hr
  obtain ⟨hS0, hfc, kC, hkC, hkind⟩ := hK.1.1.1 (kk - 1) _ hc
  obtain ⟨cf, kf, fi, f, hi, hsl⟩ := hS0 k hk
  have hlay := hts _ (hin _ (u_in_lay hk))
  unfold u_lay at hlay
  rw [if_neg (by rw [hfin]; decide)] at hlay
  have hst := (u_facts hfc hkC (u_lays hts hin hk) hi).1
  have h6 := u_store (v := .int v) hfc hkC hkind hlay hi hd rfl rfl
  subst hs
  refine W.putK hx hb (f := f) ⟨hown, hts _ hl, ⟨_, _, _, hi⟩, hst⟩ (by rw [q2]; exact h6) q1 q3 (by rw [hsl]; exact k2_hasslot (q4 k hk)) rfl rfl hdg fun H' e1 e2 e3 => ?_
  rw [hsl] at e1 ⊢
  have hP1 : va_P D vwCl ((va_pl (layR b ω).1 (ent cA (layR b ω) (stoR b ω))).set q (b + a, .inr (kk - 1, (fl kk (layR b ω) (stoR b ω) (b + a)).set k (.int v)))) H' := va_P.set hC.1 (dD_r (b := b) _) hq2 ⟨_, hc, t_OB.to (V := updV (vp_V (fl kk (layR b ω) (stoR b ω) (b + a))) k (.int v)) ⟨_, e1, q2, q3, t_set q4 hap hk (.int v)⟩ (fun j _ => vp_updV_set hlen (.int v) j)⟩ e3
  refine kk1 (relI ω a k v) H' _ rfl ⟨rep_set (ω := ω) (ω1 := relI ω a k v) rfl rfl rfl (fun j hj => ⟨rfl, by simp only [relI]; rw [up2_ne _ _ _ hj], rfl⟩) ?_ h0.1 hq hP1, by rw [e2]; exact hC.2⟩ (hS.put e2 e3 (Nat.le_add_right b a))
  rw [ent_o (show kd (layR b (relI ω a k v)) (b + a) = kk from h0.2) h7, ← hv]
  have : stoR b (relI ω a k v) = stoR b (relI ω a k v) := rfl
  unfold fl
  simp only [layR, stoR, relI, stI, up2, Nat.add_sub_cancel_left, true_and, if_true]
theorem rc_putR (X : CxI cc nL own Ts p s m args meth c) (hK : KnC cA D s) (hC : RepC cA D b ω H) (hS : va_S (frm b) s.heap H locs) (kk k kt : Nat) {C ref : String} {T : u_T} {N index v : Nat} {ty : FieldType} (ty0 : Nat → FieldType) (hgq : gq ω a kk = true) (ht : (kk, k, kt) ∈ tlTab) (hc : vwCl[kk - 1]? = some (C, T, N)) (hk : k < N) (hin : ∀ w ∈ u_ws C T N, w ∈ Ts) (hty : ∀ k, k < N → parseFieldDescriptor (T k).2.2.1 = some (ty0 k)) (hnm : ∀ a, a < N → ∀ b, b < N → a ≠ b → (T a).2.1 ≠ (T b).2.1) (hl : Cond.fieldLink own index ref (T k).2.1 (T k).2.2.1 ∈ Ts) (hs : (T k).1 = ref) (hfin : (T k).2.2.2 = true) (hdecl : (T k).1 = own) (hd : parseFieldDescriptor (T k).2.2.1 = some ty) (hn : narrow ty (.ref (b + v)) = .ref (b + v)) (hfit : fits ty (.ref (b + v)) = true) (hdg : decode cc pc = .ok (.putfield index, 3))
    (kk1 : ∀ (ω1 : Rel) (H1 : Heap) (locs1 : List Loc), ω1 = relR ω a k v → RepC cA D b ω1 H1 → va_S (frm b) s.heap H1 locs1 → W p l e R s m args below meth c H1 locs1 (ω1.1 - n0) (ω1.2.1 - t0) Q (F0 m (pc + 3) ls rest)) : W p l e R s m args below meth c H locs (ω.1 - n0) (ω.2.1 - t0) Q (F0 m pc ls (.ref (b + v) :: .ref (b + a) :: rest)) := by
  obtain ⟨hx, hb, -, -, hown, hts, -, hnm0⟩ := X
  have h0 := isK_r (b := b) hgq
  obtain ⟨q, hq⟩ := pl_at (f := ent cA (layR b ω) (stoR b ω)) h0.1
  obtain ⟨hv, h7⟩ := fl_getR (Λ := layR b ω) (σ := stoR b ω) (a := b + a) ht
  have hlen : k < (fl kk (layR b ω) (stoR b ω) (b + a)).length := (List.getElem?_eq_some_iff.mp hv).1
  have hq2 := hq
  rw [ent_o h0.2 h7] at hq2
  have hap := va_apart (own := own) hts hin ty0 hty hnm hK.1.1 hc
  obtain ⟨r, r1, cell, q1, q2, q3, q4⟩ := hC.1 q _ hq2
  have hr : r = (C, T, N) := Option.some.inj (r1.symm.trans hc)
  subst hr
  obtain ⟨hS0, hfc, kC, hkC, hkind⟩ := hK.1.1.1 (kk - 1) _ hc
  obtain ⟨cf, kf, fi, f, hi, hsl⟩ := hS0 k hk
  have hlay := hts _ (hin _ (u_in_lay hk))
  unfold u_lay at hlay
  rw [if_pos hfin] at hlay
  have hst := (u_facts hfc hkC (u_lays hts hin hk) hi).1
  have hcf : m.cls = cf := by
    obtain ⟨_, _, c', _, _, _, -, -, hf', -, -, -, hown2, -⟩ := Cond.laysFinal_spec hlay
    have e1 : c' = cf := by have := hi.symm.trans hf'; simp at this; exact this.1.symm
    rw [hdecl] at hown2
    rw [← e1]; exact Option.some.inj (hown.symm.trans hown2)
  have h6 := u_fits hfc hkC hkind (Or.inr hlay) hi hd hn hfit
  subst hs
  refine W.putFinK hx hb hown (hts _ hl) hi hst hcf hnm0 (by rw [q2]; exact h6) q1 q3 (by rw [hsl]; exact k2_hasslot (q4 k hk)) rfl rfl hdg fun H' e1 e2 e3 => ?_
  rw [hsl] at e1 ⊢
  have hP1 : va_P D vwCl ((va_pl (layR b ω).1 (ent cA (layR b ω) (stoR b ω))).set q (b + a, .inr (kk - 1, (fl kk (layR b ω) (stoR b ω) (b + a)).set k (.ref (b + v))))) H' := va_P.set hC.1 (dD_r (b := b) _) hq2 ⟨_, hc, t_OB.to (V := updV (vp_V (fl kk (layR b ω) (stoR b ω) (b + a))) k (.ref (b + v))) ⟨_, e1, q2, q3, t_set q4 hap hk (.ref (b + v))⟩ (fun j _ => vp_updV_set hlen (.ref (b + v)) j)⟩ e3
  refine kk1 (relR ω a k v) H' _ rfl ⟨rep_set (ω := ω) (ω1 := relR ω a k v) rfl rfl rfl (fun j hj => ⟨by simp only [relR]; rw [up2_ne _ _ _ hj], rfl, rfl⟩) ?_ h0.1 hq hP1, by rw [e2]; exact hC.2⟩ (hS.put e2 e3 (Nat.le_add_right b a))
  rw [ent_o (show kd (layR b (relR ω a k v)) (b + a) = kk from h0.2) h7]
  congr 2
  simp only [tlTab, List.mem_cons, Prod.mk.injEq, List.not_mem_nil, or_false] at ht
  rcases ht with ⟨rfl, rfl, rfl⟩ | ⟨rfl, rfl, rfl⟩ | ⟨rfl, rfl, rfl⟩ | ⟨rfl, rfl, rfl⟩ | ⟨rfl, rfl, rfl⟩ | ⟨rfl, rfl, rfl⟩ | ⟨rfl, rfl, rfl⟩ | ⟨rfl, rfl, rfl⟩ | ⟨rfl, rfl, rfl⟩ | ⟨rfl, rfl, rfl⟩ | ⟨rfl, rfl, rfl⟩ | ⟨rfl, rfl, rfl⟩ | ⟨rfl, rfl, rfl⟩ | ⟨rfl, rfl, rfl⟩ | ⟨rfl, rfl, rfl⟩ | ⟨rfl, rfl, rfl⟩ | ⟨rfl, rfl, rfl⟩ | ⟨rfl, rfl, rfl⟩ | ⟨rfl, rfl, rfl⟩ | ⟨rfl, rfl, rfl⟩ | ⟨rfl, rfl, rfl⟩ | ⟨rfl, rfl, rfl⟩ | ⟨rfl, rfl, rfl⟩ | ⟨rfl, rfl, rfl⟩ | ⟨rfl, rfl, rfl⟩ | ⟨rfl, rfl, rfl⟩ | ⟨rfl, rfl, rfl⟩ | ⟨rfl, rfl, rfl⟩ | ⟨rfl, rfl, rfl⟩ | ⟨rfl, rfl, rfl⟩ | ⟨rfl, rfl, rfl⟩ <;> simp [fl, layR, stoR, relR, up2, Nat.add_sub_cancel_left, va_rf]
theorem rc_getR (X : CxI cc nL own Ts p s m args meth c) (hK : KnC cA D s) (hC : RepC cA D b ω H) (kk k kt : Nat) {C ref : String} {T : u_T} {N index v : Nat} (hgq : gq ω a kk = true) (hr : ω.2.2.2.2.1 a k = some v) (ht : (kk, k, kt) ∈ tlTab) (hc : vwCl[kk - 1]? = some (C, T, N)) (hk : k < N) (hin : ∀ w ∈ u_ws C T N, w ∈ Ts) (hl : Cond.fieldLink own index ref (T k).2.1 (T k).2.2.1 ∈ Ts) (hs : (T k).1 = ref) (hdg : decode cc pc = .ok (.getfield index, 3)) {cells slots : Nat}
    (kk1 : W p l e R s m args below meth c H locs cells slots Q (F0 m (pc + 3) ls (.ref (b + v) :: rest))) : W p l e R s m args below meth c H locs cells slots Q (F0 m pc ls (.ref (b + a) :: rest)) := by
  obtain ⟨hx, hb, -, -, hown, hts, -, -⟩ := X
  have h0 := isK_r (b := b) hgq
  obtain ⟨q, hq⟩ := pl_at (f := ent cA (layR b ω) (stoR b ω)) h0.1
  obtain ⟨hv, h7⟩ := fl_getR (Λ := layR b ω) (σ := stoR b ω) (a := b + a) ht
  rw [ent_o h0.2 h7] at hq
  have e1 : (layR b ω).2.2.2 (b + a) k = some (b + v) := by simp only [layR, Nat.add_sub_cancel_left, hr]; rfl
  rw [e1] at hv
  exact va_get (D := D) (T := T) hx hb hts hin hown hK.1.1 hC.1 q hq hc k hk (hts _ hl) (fun _ h9 => by rw [← hs]; exact h9) hv hdg kk1
theorem rc_putJ (X : CxI cc nL own Ts p s m args meth c) (hK : KnC cA D s) (hC : RepC cA D b ω H) (hS : va_S (frm b) s.heap H locs) {index : Nat} {v : Int64} (hgq : gq ω a 4 = true) (hin : ∀ w ∈ u_ws RX3 TX3 10, w ∈ Ts) (hl : Cond.fieldLink own index RX3 (TX3 5).2.1 (TX3 5).2.2.1 ∈ Ts) (hdg : decode cc pc = .ok (.putfield index, 3))
    (kk1 : ∀ (ω1 : Rel) (H1 : Heap) (locs1 : List Loc), ω1 = relJ ω a 5 v → RepC cA D b ω1 H1 → va_S (frm b) s.heap H1 locs1 → W p l e R s m args below meth c H1 locs1 (ω1.1 - n0) (ω1.2.1 - t0) Q (F0 m (pc + 3) ls rest)) : W p l e R s m args below meth c H locs (ω.1 - n0) (ω.2.1 - t0) Q (F0 m pc ls (.long v :: .ref (b + a) :: rest)) := by
  obtain ⟨hx, hb, -, -, hown, hts, -, -⟩ := X
  have h0 := isK_r (b := b) hgq
  obtain ⟨q, hq⟩ := pl_at (f := ent cA (layR b ω) (stoR b ω)) h0.1
  have hq2 := hq
  rw [ent_o h0.2 (by decide)] at hq2
  have hap := va_apart (own := own) hts hin tyX3 tyX3_ok nmX3 hK.1.1 (show vwCl[3]? = some (RX3, TX3, 10) from rfl)
  obtain ⟨r, r1, cell, q1, q2, q3, q4⟩ := hC.1 q _ hq2
  have hr : r = (RX3, TX3, 10) := Option.some.inj (r1.symm.trans rfl)
  subst hr
  obtain ⟨hS0, hfc, kC, hkC, hkind⟩ := hK.1.1.1 3 _ rfl
  obtain ⟨cf, kf, fi, f, hi, hsl⟩ := hS0 5 (by decide)
  have hlay := hts _ (hin _ (u_in_lay (k := 5) (by decide)))
  unfold u_lay at hlay
  rw [if_neg (by decide)] at hlay
  have hst := (u_facts hfc hkC (u_lays hts hin (k := 5) (by decide)) hi).1
  have h6 := u_store (v := .long v) (ty := .long) hfc hkC hkind hlay hi (by decide +kernel) rfl rfl
  refine W.putK hx hb (f := f) ⟨hown, hts _ hl, ⟨_, _, _, hi⟩, hst⟩ (by rw [q2]; exact h6) q1 q3 (by rw [hsl]; exact k2_hasslot (q4 5 (by decide))) rfl rfl hdg fun H' e1 e2 e3 => ?_
  rw [hsl] at e1 ⊢
  have hP1 : va_P D vwCl ((va_pl (layR b ω).1 (ent cA (layR b ω) (stoR b ω))).set q (b + a, .inr (3, (fl 4 (layR b ω) (stoR b ω) (b + a)).set 5 (.long v)))) H' := va_P.set hC.1 (dD_r (b := b) _) hq2 ⟨_, rfl, t_OB.to (V := updV (vp_V (fl 4 (layR b ω) (stoR b ω) (b + a))) 5 (.long v)) ⟨_, e1, q2, q3, t_set q4 hap (by decide) (.long v)⟩ (fun j _ => vp_updV_set (by simp [fl]) (.long v) j)⟩ e3
  refine kk1 (relJ ω a 5 v) H' _ rfl ⟨rep_set (ω := ω) (ω1 := relJ ω a 5 v) rfl rfl rfl (fun j hj => ⟨rfl, rfl, by simp only [relJ]; rw [up2_ne _ _ _ hj]⟩) ?_ h0.1 hq hP1, by rw [e2]; exact hC.2⟩ (hS.put e2 e3 (Nat.le_add_right b a))
  rw [ent_o (show kd (layR b (relJ ω a 5 v)) (b + a) = 4 from h0.2) (by decide)]
  simp [fl, layR, stoR, relJ, up2, Nat.add_sub_cancel_left]
theorem rc_aast (X : CxI cc nL own Ts p s m args meth c) (hK : KnC cA D s) (hC : RepC cA D b ω H) (hS : va_S (frm b) s.heap H locs) (kk kv t : Nat) {v : Nat} {i : Int32} (hk : (kk = 10 ∧ kv = 1 ∧ t = 3) ∨ (kk = 11 ∧ kv = 3 ∧ t = 4)) (hgq : gq ω a kk = true) (hgv : gq ω v kv = true) (hg : gd i (ω.2.2.2.1 a) = true) (hdg : decode cc pc = .ok (.aastore, 1))
    (kk1 : ∀ (ω1 : Rel) (H1 : Heap) (locs1 : List Loc), ω1 = relR ω a i.toNatClampNeg v → RepC cA D b ω1 H1 → va_S (frm b) s.heap H1 locs1 → W p l e R s m args below meth c H1 locs1 (ω1.1 - n0) (ω1.2.1 - t0) Q (F0 m (pc + 1) ls rest)) : W p l e R s m args below meth c H locs (ω.1 - n0) (ω.2.1 - t0) Q (F0 m pc ls (.ref (b + v) :: .int i :: .ref (b + a) :: rest)) := by
  obtain ⟨hx, hb, -, -, hown, hts, -, -⟩ := X
  have h0 := isK_r (b := b) hgq
  have h1 := isK_r (b := b) hgv
  obtain ⟨q, hq⟩ := pl_at (f := ent cA (layR b ω) (stoR b ω)) h0.1
  obtain ⟨qv, hqv⟩ := pl_at (f := ent cA (layR b ω) (stoR b ω)) h1.1
  have hlt := gd_lt hg
  have hi0 : ¬ i < 0 := fun z => gd_in hg (Or.inl z)
  have hln : ln (layR b ω) (b + a) = ω.2.2.2.1 a := by simp only [ln, layR, Nat.add_sub_cancel_left]
  have hkv7 : kv < 7 := by rcases hk with ⟨-, rfl, -⟩ | ⟨-, rfl, -⟩ <;> decide
  rw [ent_o h1.2 hkv7] at hqv
  obtain ⟨r', hr', cellV, g1, g2, g3, -⟩ := hC.1 qv _ hqv
  have hq2 := hq
  have hent : ent cA (layR b ω) (stoR b ω) (b + a) = .inl (cA kk, ω.2.2.2.1 a, .inr (.inr (.inr (.inr ((layR b ω).2.2.2 (b + a)))))) := by
    rcases hk with ⟨rfl, -, -⟩ | ⟨rfl, -, -⟩
    · rw [ent_10 h0.2, hln]
    · rw [ent_11 h0.2, hln]
  rw [hent] at hq2
  obtain ⟨r9, hc9, hty9⟩ : ∃ r : vw_C, vwCl[kv - 1]? = some r ∧ (tyTab cA)[t]? = some (cA kk, .object r.1) := by
    rcases hk with ⟨rfl, rfl, rfl⟩ | ⟨rfl, rfl, rfl⟩
    · exact ⟨(RX0, TX0, 3), rfl, rfl⟩
    · exact ⟨(RX2, TX2, 3), rfl, rfl⟩
  have hcls := (hK.1.1.1 (kv - 1) r9 hc9).2
  obtain ⟨kA, comp, k1, k2, k3, -⟩ := (hK.1.1.2 t _ hty9).2
  have hcomp : comp = D.1 (kv - 1) := Option.some.inj (k3.symm.trans hcls.1)
  subst hcomp
  obtain ⟨kC, hkC, -⟩ := hcls.2
  refine W.aast hx hb (hC.1 q _ hq2) (fun q h => by cases h) (fun h => by cases h) k1 k2 rfl hkC ⟨hi0, by show _ < (arrV _ _ _).slots.size; rw [arrV_size]; exact hlt⟩ g1 (fun q h => by rw [g3] at h; cases h) (by rw [g2]; exact hkC) (by rw [g2]; exact va_assign hcls) rfl rfl hdg fun H1 e1 z oq => ?_
  have hP1 : va_P D vwCl ((va_pl (layR b ω).1 (ent cA (layR b ω) (stoR b ω))).set q (b + a, .inl (cA kk, ω.2.2.2.1 a, .inr (.inr (.inr (.inr (va_up ((layR b ω).2.2.2 (b + a)) i.toNatClampNeg (some (b + v))))))))) H1 := by
    refine va_P.set hC.1 (dD_r (b := b) _) hq2 ?_ oq
    show H1[b + a]? = some (vp_cell _ _)
    rw [e1, vp_cell_q, vp_cell_q, arrV_store]
    congr 2
    funext z
    by_cases hz : z = i.toNatClampNeg
    · subst hz
      simp [updV, va_up, va_rf]
    · simp [updV, va_up, hz]
  refine kk1 (relR ω a i.toNatClampNeg v) H1 _ rfl ⟨rep_set (ω := ω) (ω1 := relR ω a i.toNatClampNeg v) rfl rfl rfl (fun j hj => ⟨by simp only [relR]; rw [up2_ne _ _ _ hj], rfl, rfl⟩) ?_ h0.1 hq hP1, by rw [z]; exact hC.2⟩ (hS.put z oq (Nat.le_add_right b a))
  have hfn : (layR b (relR ω a i.toNatClampNeg v)).2.2.2 (b + a) = va_up ((layR b ω).2.2.2 (b + a)) i.toNatClampNeg (some (b + v)) := by
    funext z
    simp only [layR, relR, up2, va_up, Nat.add_sub_cancel_left, if_true]
    by_cases hz : z = i.toNatClampNeg <;> simp [hz]
  have hkd : kd (layR b (relR ω a i.toNatClampNeg v)) (b + a) = kk := h0.2
  have hln2 : ln (layR b (relR ω a i.toNatClampNeg v)) (b + a) = ω.2.2.2.1 a := hln
  rcases hk with ⟨rfl, -, -⟩ | ⟨rfl, -, -⟩
  · rw [ent_10 hkd, hln2, hfn]
  · rw [ent_11 hkd, hln2, hfn]
theorem rc_ret {res : Rel} (X : CxI cc nL own Ts p s m args meth c) (hC : RepC cA D b ω H) (hS : va_S (frm b) s.heap H locs) (hg : gr ω n0 t0 MC MS 0 0 = true) (hres : ω = res) (hdg : decode cc pc = .ok (.return_, 1)) : W p l e R s m args below meth c H locs (ω.1 - n0) (ω.2.1 - t0) (MQ below (QC cA D b res) args s MC MS (frm b)) (F0 m pc ls []) := by
  obtain ⟨g1, g2, g3, g4⟩ := of_decide_eq_true hg
  subst hres
  refine W.widen (k := MC) (n := MS) (by omega) (by omega) ?_
  exact W.vret X.1 X.2.1 X.2.2.1 (fun t ht hW => ⟨⟨ω, rfl, rfl, (show RepC cA D b ω t.heap by rw [ht]; exact hC)⟩, hS.F ht⟩) hS.2.2 hdg X.2.2.2.2.2.2.1
theorem rc_call {y : MethodName} {ws : List Cond} {rm : Room} {As : List Value} {ω1 : Rel} {k mc ms n index maxL : Nat} {bytes : ByteArray} (X : CxI cc nL own Ts p s m args meth c) (hK : KnC cA D s) (hC : RepC cA D b ω H) (hS : va_S (frm b) s.heap H locs) (hM : MC ≤ R.cells ∧ MS ≤ R.slots) (hls : ls.size = nL) (hMet : Met l y ws rm (va_Pc (.ref (b + k) :: As) (PC cA D b ω)) (QC cA D b ω1) mc ms (frm b)) (cw : CallB R s args own index y bytes maxL none ws rm mc ms n ∧ y.name = "<init>" ∧ (Cond.instanceMethod y).before args s = true) (hn : As.length = n) (hst : st0 = As.reverse ++ .ref (b + k) :: rest) (hW : (rest.map fun v => v.category).sum ≤ 8) (hg : gr ω n0 t0 MC MS mc ms = true) (he : ge ω ω1 mc ms = true) (hdg : decode cc pc = .ok (.invokespecial index, 3))
    (kk1 : ∀ (H1 : Heap) (locs1 : List Loc), RepC cA D b ω1 H1 → va_S (frm b) s.heap H1 locs1 → W p l e R s m args below meth c H1 locs1 (ω1.1 - n0) (ω1.2.1 - t0) Q (F0 m (pc + 3) ls rest)) : W p l e R s m args below meth c H locs (ω.1 - n0) (ω.2.1 - t0) Q (F0 m pc ls st0) := by
  obtain ⟨g1, g2, g3, g4⟩ := of_decide_eq_true hg
  obtain ⟨g5, g6⟩ := of_decide_eq_true he
  refine va_callv (va_runI (Ts := Ts) ⟨X.1, X.2.1, X.2.2.2.1, X.2.2.2.2.1, X.2.2.2.2.2.1⟩ hMet cw ⟨PC.blind, fun U hU hW1 => ⟨rfl, by rw [hU]; exact hC, hK.warm hW1⟩⟩ rfl hn hls hst (lv_room hW) hdg ⟨by omega, by omega⟩) hS (fun _ _ h => h) (fun _ h => h) (fun u t H1 locs1 ht _ hp hB _ _ hS1 => ?_)
  subst hp
  refine W.widen (k := u.1 - n0) (n := u.2.1 - t0) (by omega) (by omega) ?_
  exact kk1 H1 locs1 (by rw [← ht]; exact hB) hS1
end RC
