/-! THE WORLD OF A STATE, and the machine's rows over it -/
/-- the fields of an object of kind kk -/
def fl (kk : Nat) (Λ : Lay) (σ : Sto) (a : Nat) : List Value := match kk with
  | 1 => [.int (σ.1 a 0), .int (σ.1 a 1), va_rf (Λ.2.2.2 a 2)]
  | 2 => [va_rf (Λ.2.2.2 a 0), .int (σ.1 a 1), .int (σ.1 a 2)]
  | 3 => [.int (σ.1 a 0), .int (σ.1 a 1), va_rf (Λ.2.2.2 a 2)]
  | 4 => [va_rf (Λ.2.2.2 a 0), va_rf (Λ.2.2.2 a 1), va_rf (Λ.2.2.2 a 2), va_rf (Λ.2.2.2 a 3), va_rf (Λ.2.2.2 a 4), .long (σ.2 a 5), .int (σ.1 a 6), .int (σ.1 a 7), .int (σ.1 a 8), .int (σ.1 a 9)]
  | 5 => [va_rf (Λ.2.2.2 a 0), .int (σ.1 a 1), va_rf (Λ.2.2.2 a 2), va_rf (Λ.2.2.2 a 3), va_rf (Λ.2.2.2 a 4), va_rf (Λ.2.2.2 a 5), va_rf (Λ.2.2.2 a 6), .int (σ.1 a 7)]
  | _ => [.int (σ.1 a 0), .int (σ.1 a 1), va_rf (Λ.2.2.2 a 2), va_rf (Λ.2.2.2 a 3), va_rf (Λ.2.2.2 a 4), va_rf (Λ.2.2.2 a 5), .int (σ.1 a 6), .int (σ.1 a 7), va_rf (Λ.2.2.2 a 8), va_rf (Λ.2.2.2 a 9), va_rf (Λ.2.2.2 a 10), va_rf (Λ.2.2.2 a 11), va_rf (Λ.2.2.2 a 12), va_rf (Λ.2.2.2 a 13), va_rf (Λ.2.2.2 a 14), va_rf (Λ.2.2.2 a 15), .int (σ.1 a 16), va_rf (Λ.2.2.2 a 17), va_rf (Λ.2.2.2 a 18), .int (σ.1 a 19), va_rf (Λ.2.2.2 a 20), va_rf (Λ.2.2.2 a 21), .int (σ.1 a 22), va_rf (Λ.2.2.2 a 23)]
/-- what lies at an address -/
def ent (cA : Nat → ClassId) (Λ : Lay) (σ : Sto) (a : Nat) : va_E := match kd Λ a with
  | 7 => .inl (cA 7, ln Λ a, .inl (σ.1 a))
  | 8 => .inl (cA 8, ln Λ a, .inr (.inl (σ.2 a)))
  | 9 => .inl (cA 9, ln Λ a, .inl (σ.1 a))
  | 10 => .inl (cA 10, ln Λ a, .inr (.inr (.inr (.inr (Λ.2.2.2 a)))))
  | 11 => .inl (cA 11, ln Λ a, .inr (.inr (.inr (.inr (Λ.2.2.2 a)))))
  | k => .inr (k - 1, fl k Λ σ a)
def Rep (cA : Nat → ClassId) (D : va_G) (Λ : Lay) (σ : Sto) (H : Heap) : Prop := va_P D vwCl (va_pl Λ.1 (ent cA Λ σ)) H
abbrev tyTab (cA : Nat → ClassId) : List (ClassId × FieldType) := [(cA 7, .int), (cA 8, .long), (cA 9, .boolean), (cA 10, .object "StraightPages$Change"), (cA 11, .object "StraightPages$Sheet")]
def nwTab : List Cond := [.methodLinkNest RX2 38 yX4_within RX4, .methodLinkNest RX2 58 yX4_stepColumns RX4, .methodLinkNest RX2 62 yX4_leastSlide RX4, .methodLinkNest RX2 66 yX4_slide RX4, .methodLinkNest RX2 69 yX4_spread RX4, .methodLinkNest RX3 108 yX4_lowestBit RX4]
/-- what the tables say in a state -/
def Kn (cA : Nat → ClassId) (D : va_G) (U : State) : Prop := va_K D vwCl (tyTab cA) U ∧ ∀ w ∈ nwTab, va_Nw w U
theorem Kn.warm {cA : Nat → ClassId} {D : va_G} {s U : State} (hW : s.WarmedH U.vm) (h : Kn cA D s) : Kn cA D U := by
  refine ⟨va_K.moved hW.alike h.1, fun w hw => ?_⟩
  have hz := h.2 w hw
  simp only [nwTab, List.mem_cons, List.not_mem_nil, or_false] at hw
  rcases hw with rfl | rfl | rfl | rfl | rfl | rfl <;> exact va_Nw.warmM hW hz
theorem Kn.calling {cA : Nat → ClassId} {D : va_G} {U : State} {g : JFrame} {mk : MethodId} {a : Array Value} (h : Kn cA D U) : Kn cA D (U.calling g mk a) := by
  refine ⟨va_K.moved (u := U) (U := U.calling g mk a) (Vm.Alike.refl U.vm) h.1, fun w hw => ?_⟩
  have hz := h.2 w hw
  simp only [nwTab, List.mem_cons, List.not_mem_nil, or_false] at hw
  rcases hw with rfl | rfl | rfl | rfl | rfl | rfl <;> exact va_Nw.same (u := U) rfl rfl hz
/-- a method's own facts -/
def Cx (cc : ByteArray) (ret : Option FieldType) (nL : Nat) (own : String) (Ts : List Cond) (p : Program) (s : State) (m : MethodId) (args : Array Value) (meth : Method) (c : Code) : Prop :=
  p.tables.exec = Jvm.exec ∧ c.code = cc ∧ meth.sig.returnType = ret ∧ c.maxLocals = nL ∧ s.vm.findClass own = some m.cls ∧ (∀ w ∈ Ts, w.before args s = true) ∧ meth.locks = false
abbrev dm (Λ : Lay) : Nat → Prop := fun q => q ∈ Λ.1
def PW (cA : Nat → ClassId) (D : va_G) (Λ : Lay) (σ : Sto) : State → Prop := fun U => Rep cA D Λ σ U.heap ∧ Kn cA D U
def QI (cA : Nat → ClassId) (D : va_G) (Λ : Lay) (res : Int32 × Sto) : Array Value → State → Outcome → State → Prop := va_Qi (fun r (u : Sto) => r = res.1 ∧ u = res.2) (fun u t => Rep cA D Λ u t.heap) (dm Λ)
def QZ (cA : Nat → ClassId) (D : va_G) (Λ : Lay) (res : Int32 × Sto) : Array Value → State → Outcome → State → Prop := va_Qi (fun r (u : Sto) => r = res.1 ∧ u = res.2 ∧ (r = 0 ∨ r = 1)) (fun u t => Rep cA D Λ u t.heap) (dm Λ)
def QL (cA : Nat → ClassId) (D : va_G) (Λ : Lay) (res : Int64 × Sto) : Array Value → State → Outcome → State → Prop := va_Ql (fun r (u : Sto) => r = res.1 ∧ u = res.2) (fun u t => Rep cA D Λ u t.heap) (dm Λ)
def QV (cA : Nat → ClassId) (D : va_G) (Λ : Lay) (res : Sto) : Array Value → State → Outcome → State → Prop := va_Qv (fun (u : Sto) => u = res) (fun u t => Rep cA D Λ u t.heap) (dm Λ)
def QQ (kk : Nat) (cA : Nat → ClassId) (D : va_G) (Λ : Lay) (res : Option Nat × Sto) : Array Value → State → Outcome → State → Prop := va_Qq (fun r (u : Sto) => r = res.1 ∧ u = res.2 ∧ ∀ a, r = some a → isK Λ a kk) (fun u t => Rep cA D Λ u t.heap) (dm Λ)
theorem PW.blind {cA : Nat → ClassId} {D : va_G} {Λ : Lay} {σ : Sto} {av : List Value} : FrameBlind (va_Pc av (PW cA D Λ σ)) := fun a U g mk q => ⟨q.1, q.2.1, q.2.2.calling⟩
theorem dD {L : List Nat} (h : L.Nodup) (f : Nat → va_E) : va_D (fun q => q ∈ L) (va_pl L f) := by
  refine ⟨fun i j x y hx hy hxy => ?_, fun k q hk => ?_⟩
  · simp only [va_pl, List.getElem?_map, Option.map_eq_some_iff] at hx hy
    obtain ⟨a, ha, rfl⟩ := hx
    obtain ⟨b, hb, rfl⟩ := hy
    have hab : a = b := hxy
    subst hab
    obtain ⟨hi, hi2⟩ := List.getElem?_eq_some_iff.mp ha
    obtain ⟨hj, hj2⟩ := List.getElem?_eq_some_iff.mp hb
    exact (List.getElem_inj h).mp (hi2.trans hj2.symm)
  · simp only [va_pl, List.getElem?_map, Option.map_eq_some_iff] at hk
    obtain ⟨a, ha, rfl⟩ := hk
    exact List.mem_of_getElem? ha
theorem pl_at {L : List Nat} {f : Nat → va_E} {a : Nat} (h : a ∈ L) : ∃ k : Nat, (va_pl L f)[k]? = some (a, f a) := by
  obtain ⟨k, hk⟩ := va_pl_get (X := []) (f := f) h
  exact ⟨k, by simpa using hk⟩
theorem pl_set {L : List Nat} {f g : Nat → va_E} {a k : Nat} {e : va_E} (hn : L.Nodup) (h : a ∈ L) (hk : (va_pl L f)[k]? = some (a, f a)) (hg : ∀ b, va_up f a e b = g b) : (va_pl L f).set k (a, e) = va_pl L g := by
  have h1 := va_pl_set (X := []) (e := e) (A := fun q => q ∈ L) (by simpa using dD hn f) h (by simpa using hk)
  simp only [List.nil_append] at h1
  rw [h1]
  exact va_pl_congr hg
theorem ent_o {cA : Nat → ClassId} {Λ : Lay} {σ : Sto} {a kk : Nat} (h : kd Λ a = kk) (h7 : kk < 7) : ent cA Λ σ a = .inr (kk - 1, fl kk Λ σ a) := by
  unfold ent
  rw [h]
  match kk, h7 with
  | 0, _ => rfl
  | 1, _ => rfl
  | 2, _ => rfl
  | 3, _ => rfl
  | 4, _ => rfl
  | 5, _ => rfl
  | 6, _ => rfl
theorem ent_cong {cA : Nat → ClassId} {Λ : Lay} {σ τ : Sto} {a : Nat} (h1 : σ.1 a = τ.1 a) (h2 : σ.2 a = τ.2 a) : ent cA Λ σ a = ent cA Λ τ a := by
  unfold ent
  split <;> simp only [fl, h1, h2]
def iTab : List (Nat × Nat) := [(1, 0), (1, 1), (2, 1), (2, 2), (3, 0), (3, 1), (4, 6), (4, 7), (4, 8), (4, 9), (5, 1), (5, 7), (6, 0), (6, 1), (6, 6), (6, 7), (6, 16), (6, 19), (6, 22)]
theorem fl_getI {Λ : Lay} {σ : Sto} {a kk k : Nat} (h : (kk, k) ∈ iTab) : (fl kk Λ σ a)[k]? = some (.int (σ.1 a k)) ∧ kk < 7 := by
  simp only [iTab, List.mem_cons, Prod.mk.injEq, List.not_mem_nil, or_false] at h
  rcases h with ⟨rfl, rfl⟩ | ⟨rfl, rfl⟩ | ⟨rfl, rfl⟩ | ⟨rfl, rfl⟩ | ⟨rfl, rfl⟩ | ⟨rfl, rfl⟩ | ⟨rfl, rfl⟩ | ⟨rfl, rfl⟩ | ⟨rfl, rfl⟩ | ⟨rfl, rfl⟩ | ⟨rfl, rfl⟩ | ⟨rfl, rfl⟩ | ⟨rfl, rfl⟩ | ⟨rfl, rfl⟩ | ⟨rfl, rfl⟩ | ⟨rfl, rfl⟩ | ⟨rfl, rfl⟩ | ⟨rfl, rfl⟩ | ⟨rfl, rfl⟩ <;> exact ⟨rfl, by decide⟩
theorem fl_setI {Λ : Lay} {σ : Sto} {a kk k : Nat} {v : Int32} (h : (kk, k) ∈ iTab) : fl kk Λ (stI σ a k v) a = (fl kk Λ σ a).set k (.int v) ∧ k < (fl kk Λ σ a).length ∧ kk < 7 := by
  simp only [iTab, List.mem_cons, Prod.mk.injEq, List.not_mem_nil, or_false] at h
  rcases h with ⟨rfl, rfl⟩ | ⟨rfl, rfl⟩ | ⟨rfl, rfl⟩ | ⟨rfl, rfl⟩ | ⟨rfl, rfl⟩ | ⟨rfl, rfl⟩ | ⟨rfl, rfl⟩ | ⟨rfl, rfl⟩ | ⟨rfl, rfl⟩ | ⟨rfl, rfl⟩ | ⟨rfl, rfl⟩ | ⟨rfl, rfl⟩ | ⟨rfl, rfl⟩ | ⟨rfl, rfl⟩ | ⟨rfl, rfl⟩ | ⟨rfl, rfl⟩ | ⟨rfl, rfl⟩ | ⟨rfl, rfl⟩ | ⟨rfl, rfl⟩ <;> refine ⟨by simp [fl, stI, up2], by simp [fl], by decide⟩
theorem fl_getR {Λ : Lay} {σ : Sto} {a kk k kt : Nat} (h : (kk, k, kt) ∈ tlTab) : (fl kk Λ σ a)[k]? = some (va_rf (Λ.2.2.2 a k)) ∧ kk < 7 := by
  simp only [tlTab, List.mem_cons, Prod.mk.injEq, List.not_mem_nil, or_false] at h
  rcases h with ⟨rfl, rfl, rfl⟩ | ⟨rfl, rfl, rfl⟩ | ⟨rfl, rfl, rfl⟩ | ⟨rfl, rfl, rfl⟩ | ⟨rfl, rfl, rfl⟩ | ⟨rfl, rfl, rfl⟩ | ⟨rfl, rfl, rfl⟩ | ⟨rfl, rfl, rfl⟩ | ⟨rfl, rfl, rfl⟩ | ⟨rfl, rfl, rfl⟩ | ⟨rfl, rfl, rfl⟩ | ⟨rfl, rfl, rfl⟩ | ⟨rfl, rfl, rfl⟩ | ⟨rfl, rfl, rfl⟩ | ⟨rfl, rfl, rfl⟩ | ⟨rfl, rfl, rfl⟩ | ⟨rfl, rfl, rfl⟩ | ⟨rfl, rfl, rfl⟩ | ⟨rfl, rfl, rfl⟩ | ⟨rfl, rfl, rfl⟩ | ⟨rfl, rfl, rfl⟩ | ⟨rfl, rfl, rfl⟩ | ⟨rfl, rfl, rfl⟩ | ⟨rfl, rfl, rfl⟩ | ⟨rfl, rfl, rfl⟩ | ⟨rfl, rfl, rfl⟩ | ⟨rfl, rfl, rfl⟩ | ⟨rfl, rfl, rfl⟩ | ⟨rfl, rfl, rfl⟩ | ⟨rfl, rfl, rfl⟩ | ⟨rfl, rfl, rfl⟩ <;> exact ⟨rfl, by decide⟩
theorem stI_off {cA : Nat → ClassId} {Λ : Lay} {σ : Sto} {a k : Nat} {v : Int32} {e : va_E} (he : ent cA Λ (stI σ a k v) a = e) : ∀ b, va_up (ent cA Λ σ) a e b = ent cA Λ (stI σ a k v) b := by
  intro b
  by_cases hb : b = a
  · subst hb; rw [va_up_self]; exact he.symm
  · rw [va_up_ne _ _ hb]
    exact ent_cong (by simp only [stI]; rw [up2_ne _ _ _ hb]) rfl
theorem stJ_off {cA : Nat → ClassId} {Λ : Lay} {σ : Sto} {a k : Nat} {v : Int64} {e : va_E} (he : ent cA Λ (stJ σ a k v) a = e) : ∀ b, va_up (ent cA Λ σ) a e b = ent cA Λ (stJ σ a k v) b := by
  intro b
  by_cases hb : b = a
  · subst hb; rw [va_up_self]; exact he.symm
  · rw [va_up_ne _ _ hb]
    exact ent_cong rfl (by simp only [stJ]; rw [up2_ne _ _ _ hb])
section MR
variable {p : Program} {l : Launch} {e : Env} {R : Room} {s : State} {m : MethodId} {args : Array Value} {below : List Frame} {meth : Method} {c : Code} {H : Heap} {locs : List Loc} {cells slots : Nat} {Q : State → Prop}
variable {cc : ByteArray} {ret : Option FieldType} {nL : Nat} {own : String} {Ts : List Cond} {cA : Nat → ClassId} {D : va_G} {Λ : Lay} {σ : Sto} {pc : Nat} {ls : Array Slot} {rest : List Value} {a : Nat}
theorem rw_getI (X : Cx cc ret nL own Ts p s m args meth c) (hK : Kn cA D s) (hR : Rep cA D Λ σ H) (kk k : Nat) {C ref : String} {T : u_T} {N index : Nat} (h0 : isK Λ a kk) (ht : (kk, k) ∈ iTab) (hc : vwCl[kk - 1]? = some (C, T, N)) (hk : k < N) (hin : ∀ w ∈ u_ws C T N, w ∈ Ts) (hl : Cond.fieldLink own index ref (T k).2.1 (T k).2.2.1 ∈ Ts) (hs : (T k).1 = ref) (hdg : decode cc pc = .ok (.getfield index, 3))
    (kk1 : W p l e R s m args below meth c H locs cells slots Q (F0 m (pc + 3) ls (.int (σ.1 a k) :: rest))) : W p l e R s m args below meth c H locs cells slots Q (F0 m pc ls (.ref a :: rest)) := by
  obtain ⟨hx, hb, -, -, hown, hts, -⟩ := X
  obtain ⟨q, hq⟩ := pl_at (f := ent cA Λ σ) h0.1
  obtain ⟨hv, h7⟩ := fl_getI (Λ := Λ) (σ := σ) (a := a) ht
  rw [ent_o h0.2 h7] at hq
  exact va_get (D := D) (T := T) hx hb hts hin hown hK.1 hR q hq hc k hk (hts _ hl) (fun _ h9 => by rw [← hs]; exact h9) hv hdg kk1
theorem rw_getJ (X : Cx cc ret nL own Ts p s m args meth c) (hK : Kn cA D s) (hR : Rep cA D Λ σ H) {index : Nat} (h0 : isK Λ a 4) (hin : ∀ w ∈ u_ws RX3 TX3 10, w ∈ Ts) (hl : Cond.fieldLink own index RX3 (TX3 5).2.1 (TX3 5).2.2.1 ∈ Ts) (hdg : decode cc pc = .ok (.getfield index, 3))
    (kk1 : W p l e R s m args below meth c H locs cells slots Q (F0 m (pc + 3) ls (.long (σ.2 a 5) :: rest))) : W p l e R s m args below meth c H locs cells slots Q (F0 m pc ls (.ref a :: rest)) := by
  obtain ⟨hx, hb, -, -, hown, hts, -⟩ := X
  obtain ⟨q, hq⟩ := pl_at (f := ent cA Λ σ) h0.1
  rw [ent_o h0.2 (by decide)] at hq
  exact va_get (D := D) (T := TX3) (ci := 3) hx hb hts hin hown hK.1 hR q hq rfl 5 (by decide) (hts _ hl) (fun _ h9 => h9) rfl hdg kk1
theorem rw_getR (X : Cx cc ret nL own Ts p s m args meth c) (hK : Kn cA D s) (hT : TL Λ) (hR : Rep cA D Λ σ H) (kk k kt : Nat) {C ref : String} {T : u_T} {N index : Nat} (h0 : isK Λ a kk) (ht : (kk, k, kt) ∈ tlTab) (hc : vwCl[kk - 1]? = some (C, T, N)) (hk : k < N) (hin : ∀ w ∈ u_ws C T N, w ∈ Ts) (hl : Cond.fieldLink own index ref (T k).2.1 (T k).2.2.1 ∈ Ts) (hs : (T k).1 = ref) (hdg : decode cc pc = .ok (.getfield index, 3))
    (kk1 : isK Λ (rfA Λ a k) kt → W p l e R s m args below meth c H locs cells slots Q (F0 m (pc + 3) ls (.ref (rfA Λ a k) :: rest))) : W p l e R s m args below meth c H locs cells slots Q (F0 m pc ls (.ref a :: rest)) := by
  obtain ⟨hx, hb, -, -, hown, hts, -⟩ := X
  obtain ⟨q, hq⟩ := pl_at (f := ent cA Λ σ) h0.1
  obtain ⟨hv, h7⟩ := fl_getR (Λ := Λ) (σ := σ) (a := a) ht
  rw [ent_o h0.2 h7] at hq
  obtain ⟨h1, h2⟩ := hT.2.1 _ ht a h0
  rw [h1] at hv
  exact va_get (D := D) (T := T) hx hb hts hin hown hK.1 hR q hq hc k hk (hts _ hl) (fun _ h9 => by rw [← hs]; exact h9) hv hdg (kk1 h2)
theorem rw_putI (X : Cx cc ret nL own Ts p s m args meth c) (hK : Kn cA D s) (hT : TL Λ) (hR : Rep cA D Λ σ H) (hS : va_S (dm Λ) s.heap H locs) (kk k : Nat) {C ref : String} {T : u_T} {N index : Nat} {v : Int32} (ty0 : Nat → FieldType) (h0 : isK Λ a kk) (ht : (kk, k) ∈ iTab) (hc : vwCl[kk - 1]? = some (C, T, N)) (hk : k < N) (hin : ∀ w ∈ u_ws C T N, w ∈ Ts) (hty : ∀ k, k < N → parseFieldDescriptor (T k).2.2.1 = some (ty0 k)) (hnm : ∀ a, a < N → ∀ b, b < N → a ≠ b → (T a).2.1 ≠ (T b).2.1) (hl : Cond.fieldLink own index ref (T k).2.1 (T k).2.2.1 ∈ Ts) (hs : (T k).1 = ref) (hfin : (T k).2.2.2 = false) (hd : parseFieldDescriptor (T k).2.2.1 = some .int) (hdg : decode cc pc = .ok (.putfield index, 3))
    (kk1 : ∀ (σ1 : Sto) (H1 : Heap) (locs1 : List Loc), σ1 = stI σ a k v → Rep cA D Λ σ1 H1 → va_S (dm Λ) s.heap H1 locs1 → W p l e R s m args below meth c H1 locs1 cells slots Q (F0 m (pc + 3) ls rest)) : W p l e R s m args below meth c H locs cells slots Q (F0 m pc ls (.int v :: .ref a :: rest)) := by
  obtain ⟨hx, hb, -, -, hown, hts, -⟩ := X
  obtain ⟨q, hq⟩ := pl_at (f := ent cA Λ σ) h0.1
  obtain ⟨hv, hlen, h7⟩ := fl_setI (Λ := Λ) (σ := σ) (a := a) (v := v) ht
  have he := ent_o (cA := cA) (σ := σ) h0.2 h7
  have hq2 := hq
  rw [he] at hq2
  refine va_put (D := D) (T := T) (v := .int v) (ty := .int) hx hb hts hin ty0 hty hnm hown hK.1 hR (dD hT.1 _) hS q hq2 hc k hk (hts _ hl) (fun _ h9 => by rw [← hs]; exact h9) hfin hd rfl rfl hlen hdg (fun H1 locs1 hP1 hD1 hS1 => kk1 _ H1 locs1 rfl ?_ hS1)
  rw [pl_set (g := ent cA Λ (stI σ a k v)) hT.1 h0.1 hq (stI_off (by rw [ent_o h0.2 h7, hv]))] at hP1
  exact hP1
theorem rw_putJ (X : Cx cc ret nL own Ts p s m args meth c) (hK : Kn cA D s) (hT : TL Λ) (hR : Rep cA D Λ σ H) (hS : va_S (dm Λ) s.heap H locs) {index : Nat} {v : Int64} (h0 : isK Λ a 4) (hin : ∀ w ∈ u_ws RX3 TX3 10, w ∈ Ts) (hl : Cond.fieldLink own index RX3 (TX3 5).2.1 (TX3 5).2.2.1 ∈ Ts) (hdg : decode cc pc = .ok (.putfield index, 3))
    (kk1 : ∀ (σ1 : Sto) (H1 : Heap) (locs1 : List Loc), σ1 = stJ σ a 5 v → Rep cA D Λ σ1 H1 → va_S (dm Λ) s.heap H1 locs1 → W p l e R s m args below meth c H1 locs1 cells slots Q (F0 m (pc + 3) ls rest)) : W p l e R s m args below meth c H locs cells slots Q (F0 m pc ls (.long v :: .ref a :: rest)) := by
  obtain ⟨hx, hb, -, -, hown, hts, -⟩ := X
  obtain ⟨q, hq⟩ := pl_at (f := ent cA Λ σ) h0.1
  have he := ent_o (cA := cA) (σ := σ) h0.2 (by decide)
  have hq2 := hq
  rw [he] at hq2
  refine va_put (D := D) (T := TX3) (ci := 3) (v := .long v) (ty := .long) hx hb hts hin tyX3 tyX3_ok nmX3 hown hK.1 hR (dD hT.1 _) hS q hq2 rfl 5 (by decide) (hts _ hl) (fun _ h9 => h9) rfl (by decide +kernel) rfl rfl (by simp [fl]) hdg (fun H1 locs1 hP1 hD1 hS1 => kk1 _ H1 locs1 rfl ?_ hS1)
  rw [pl_set (g := ent cA Λ (stJ σ a 5 v)) hT.1 h0.1 hq (stJ_off (by rw [ent_o h0.2 (by decide)]; simp [fl, stJ, up2]))] at hP1
  exact hP1
theorem ent_7 (h : kd Λ a = 7) : ent cA Λ σ a = .inl (cA 7, ln Λ a, .inl (σ.1 a)) := by unfold ent; rw [h]; rfl
theorem ent_8 (h : kd Λ a = 8) : ent cA Λ σ a = .inl (cA 8, ln Λ a, .inr (.inl (σ.2 a))) := by unfold ent; rw [h]; rfl
theorem ent_9 (h : kd Λ a = 9) : ent cA Λ σ a = .inl (cA 9, ln Λ a, .inl (σ.1 a)) := by unfold ent; rw [h]; rfl
theorem ent_10 (h : kd Λ a = 10) : ent cA Λ σ a = .inl (cA 10, ln Λ a, .inr (.inr (.inr (.inr (Λ.2.2.2 a))))) := by unfold ent; rw [h]; rfl
theorem ent_11 (h : kd Λ a = 11) : ent cA Λ σ a = .inl (cA 11, ln Λ a, .inr (.inr (.inr (.inr (Λ.2.2.2 a))))) := by unfold ent; rw [h]; rfl
theorem rw_iald (X : Cx cc ret nL own Ts p s m args meth c) (hK : Kn cA D s) (hR : Rep cA D Λ σ H) (h0 : isK Λ a 7) {i : Int32} (hg : gd i (ln Λ a) = true) (hdg : decode cc pc = .ok (.iaload, 1))
    (kk1 : W p l e R s m args below meth c H locs cells slots Q (F0 m (pc + 1) ls (.int (σ.1 a i.toNatClampNeg) :: rest))) : W p l e R s m args below meth c H locs cells slots Q (F0 m pc ls (.int i :: .ref a :: rest)) := by
  obtain ⟨q, hq⟩ := pl_at (f := ent cA Λ σ) h0.1
  rw [ent_7 h0.2] at hq
  exact va_iald X.1 X.2.1 hK.1 hR q 0 hq rfl (gd_in hg) hdg kk1
theorem rw_zald (X : Cx cc ret nL own Ts p s m args meth c) (hK : Kn cA D s) (hR : Rep cA D Λ σ H) (h0 : isK Λ a 9) {i : Int32} (hg : gd i (ln Λ a) = true) (hdg : decode cc pc = .ok (.baload, 1))
    (kk1 : W p l e R s m args below meth c H locs cells slots Q (F0 m (pc + 1) ls (.int (σ.1 a i.toNatClampNeg) :: rest))) : W p l e R s m args below meth c H locs cells slots Q (F0 m pc ls (.int i :: .ref a :: rest)) := by
  obtain ⟨q, hq⟩ := pl_at (f := ent cA Λ σ) h0.1
  rw [ent_9 h0.2] at hq
  exact va_zald X.1 X.2.1 hK.1 hR q 2 hq rfl (gd_in hg) hdg kk1
theorem rw_lald (X : Cx cc ret nL own Ts p s m args meth c) (hK : Kn cA D s) (hR : Rep cA D Λ σ H) (h0 : isK Λ a 8) {i : Int32} (hg : gd i (ln Λ a) = true) (hdg : decode cc pc = .ok (.laload, 1))
    (kk1 : W p l e R s m args below meth c H locs cells slots Q (F0 m (pc + 1) ls (.long (σ.2 a i.toNatClampNeg) :: rest))) : W p l e R s m args below meth c H locs cells slots Q (F0 m pc ls (.int i :: .ref a :: rest)) := by
  obtain ⟨q, hq⟩ := pl_at (f := ent cA Λ σ) h0.1
  rw [ent_8 h0.2] at hq
  exact va_lald X.1 X.2.1 hK.1 hR q 1 hq rfl (gd_in hg) hdg kk1
theorem rw_aald10 (X : Cx cc ret nL own Ts p s m args meth c) (hK : Kn cA D s) (hT : TL Λ) (hR : Rep cA D Λ σ H) (h0 : isK Λ a 10) {i : Int32} (hg : gd i (ln Λ a) = true) (hdg : decode cc pc = .ok (.aaload, 1))
    (kk1 : isK Λ (rfA Λ a i.toNatClampNeg) 1 → W p l e R s m args below meth c H locs cells slots Q (F0 m (pc + 1) ls (.ref (rfA Λ a i.toNatClampNeg) :: rest))) : W p l e R s m args below meth c H locs cells slots Q (F0 m pc ls (.int i :: .ref a :: rest)) := by
  obtain ⟨q, hq⟩ := pl_at (f := ent cA Λ σ) h0.1
  rw [ent_10 h0.2] at hq
  obtain ⟨h1, h2⟩ := hT.2.2.1 a h0 _ (gd_lt hg)
  refine va_aldq X.1 X.2.1 hK.1 hR q 3 hq rfl (gd_in hg) hdg ?_
  rw [h1]
  exact kk1 h2
theorem rw_aald11 (X : Cx cc ret nL own Ts p s m args meth c) (hK : Kn cA D s) (hT : TL Λ) (hR : Rep cA D Λ σ H) (h0 : isK Λ a 11) {i : Int32} (hg : gd i (ln Λ a) = true) (hdg : decode cc pc = .ok (.aaload, 1))
    (kk1 : isK Λ (rfA Λ a i.toNatClampNeg) 3 → W p l e R s m args below meth c H locs cells slots Q (F0 m (pc + 1) ls (.ref (rfA Λ a i.toNatClampNeg) :: rest))) : W p l e R s m args below meth c H locs cells slots Q (F0 m pc ls (.int i :: .ref a :: rest)) := by
  obtain ⟨q, hq⟩ := pl_at (f := ent cA Λ σ) h0.1
  rw [ent_11 h0.2] at hq
  obtain ⟨h1, h2⟩ := hT.2.2.2 a h0 _ (gd_lt hg)
  refine va_aldq X.1 X.2.1 hK.1 hR q 4 hq rfl (gd_in hg) hdg ?_
  rw [h1]
  exact kk1 h2
theorem upd_up2 {f : Nat → Nat → Int32} {k : Nat} {v : Int32} : upd (f a) k v = up2 f a k v a := by funext j; simp [upd, up2]
theorem updL_up2 {f : Nat → Nat → Int64} {k : Nat} {v : Int64} : vp_updL (f a) k v = up2 f a k v a := by funext j; simp [vp_updL, up2]
theorem rw_iast (X : Cx cc ret nL own Ts p s m args meth c) (hK : Kn cA D s) (hT : TL Λ) (hR : Rep cA D Λ σ H) (hS : va_S (dm Λ) s.heap H locs) (h0 : isK Λ a 7) {i x : Int32} (hg : gd i (ln Λ a) = true) (hdg : decode cc pc = .ok (.iastore, 1))
    (kk1 : ∀ (σ1 : Sto) (H1 : Heap) (locs1 : List Loc), σ1 = stI σ a i.toNatClampNeg x → Rep cA D Λ σ1 H1 → va_S (dm Λ) s.heap H1 locs1 → W p l e R s m args below meth c H1 locs1 cells slots Q (F0 m (pc + 1) ls rest)) : W p l e R s m args below meth c H locs cells slots Q (F0 m pc ls (.int x :: .int i :: .ref a :: rest)) := by
  obtain ⟨q, hq⟩ := pl_at (f := ent cA Λ σ) h0.1
  have hq2 := hq
  rw [ent_7 h0.2] at hq2
  refine va_iast X.1 X.2.1 hK.1 hR (dD hT.1 _) hS q 0 hq2 rfl (gd_in hg) hdg (fun H1 locs1 hP1 hD1 hS1 => kk1 _ H1 locs1 rfl ?_ hS1)
  rw [pl_set (g := ent cA Λ (stI σ a i.toNatClampNeg x)) hT.1 h0.1 hq (stI_off (by rw [ent_7 h0.2, upd_up2]; rfl))] at hP1
  exact hP1
theorem rw_zast (X : Cx cc ret nL own Ts p s m args meth c) (hK : Kn cA D s) (hT : TL Λ) (hR : Rep cA D Λ σ H) (hS : va_S (dm Λ) s.heap H locs) (h0 : isK Λ a 9) {i x : Int32} (hg : gd i (ln Λ a) = true) (hdg : decode cc pc = .ok (.bastore, 1))
    (kk1 : ∀ (σ1 : Sto) (H1 : Heap) (locs1 : List Loc), σ1 = stI σ a i.toNatClampNeg (vp_nar .boolean x) → Rep cA D Λ σ1 H1 → va_S (dm Λ) s.heap H1 locs1 → W p l e R s m args below meth c H1 locs1 cells slots Q (F0 m (pc + 1) ls rest)) : W p l e R s m args below meth c H locs cells slots Q (F0 m pc ls (.int x :: .int i :: .ref a :: rest)) := by
  obtain ⟨q, hq⟩ := pl_at (f := ent cA Λ σ) h0.1
  have hq2 := hq
  rw [ent_9 h0.2] at hq2
  refine va_zast X.1 X.2.1 hK.1 hR (dD hT.1 _) hS q 2 hq2 rfl (gd_in hg) hdg (fun H1 locs1 hP1 hD1 hS1 => kk1 _ H1 locs1 rfl ?_ hS1)
  rw [pl_set (g := ent cA Λ (stI σ a i.toNatClampNeg (vp_nar .boolean x))) hT.1 h0.1 hq (stI_off (by rw [ent_9 h0.2, upd_up2]; rfl))] at hP1
  exact hP1
theorem rw_last (X : Cx cc ret nL own Ts p s m args meth c) (hK : Kn cA D s) (hT : TL Λ) (hR : Rep cA D Λ σ H) (hS : va_S (dm Λ) s.heap H locs) (h0 : isK Λ a 8) {i : Int32} {x : Int64} (hg : gd i (ln Λ a) = true) (hdg : decode cc pc = .ok (.lastore, 1))
    (kk1 : ∀ (σ1 : Sto) (H1 : Heap) (locs1 : List Loc), σ1 = stJ σ a i.toNatClampNeg x → Rep cA D Λ σ1 H1 → va_S (dm Λ) s.heap H1 locs1 → W p l e R s m args below meth c H1 locs1 cells slots Q (F0 m (pc + 1) ls rest)) : W p l e R s m args below meth c H locs cells slots Q (F0 m pc ls (.long x :: .int i :: .ref a :: rest)) := by
  obtain ⟨q, hq⟩ := pl_at (f := ent cA Λ σ) h0.1
  have hq2 := hq
  rw [ent_8 h0.2] at hq2
  refine va_last X.1 X.2.1 hK.1 hR (dD hT.1 _) hS q 1 hq2 rfl (gd_in hg) hdg (fun H1 locs1 hP1 hD1 hS1 => kk1 _ H1 locs1 rfl ?_ hS1)
  rw [pl_set (g := ent cA Λ (stJ σ a i.toNatClampNeg x)) hT.1 h0.1 hq (stJ_off (by rw [ent_8 h0.2, updL_up2]; rfl))] at hP1
  exact hP1
theorem rw_alen7 (X : Cx cc ret nL own Ts p s m args meth c) (hK : Kn cA D s) (hR : Rep cA D Λ σ H) (h0 : isK Λ a 7) (hdg : decode cc pc = .ok (.arraylength, 1))
    (kk1 : W p l e R s m args below meth c H locs cells slots Q (F0 m (pc + 1) ls (.int (nI (ln Λ a)) :: rest))) : W p l e R s m args below meth c H locs cells slots Q (F0 m pc ls (.ref a :: rest)) := by
  obtain ⟨q, hq⟩ := pl_at (f := ent cA Λ σ) h0.1
  rw [ent_7 h0.2] at hq
  exact va_alen X.1 X.2.1 hK.1 hR q 0 hq rfl rfl hdg kk1
theorem rw_alen8 (X : Cx cc ret nL own Ts p s m args meth c) (hK : Kn cA D s) (hR : Rep cA D Λ σ H) (h0 : isK Λ a 8) (hdg : decode cc pc = .ok (.arraylength, 1))
    (kk1 : W p l e R s m args below meth c H locs cells slots Q (F0 m (pc + 1) ls (.int (nI (ln Λ a)) :: rest))) : W p l e R s m args below meth c H locs cells slots Q (F0 m pc ls (.ref a :: rest)) := by
  obtain ⟨q, hq⟩ := pl_at (f := ent cA Λ σ) h0.1
  rw [ent_8 h0.2] at hq
  exact va_alen X.1 X.2.1 hK.1 hR q 1 hq rfl rfl hdg kk1
theorem rw_copyl (X : Cx cc ret nL own Ts p s m args meth c) (hK : Kn cA D s) (hT : TL Λ) (hR : Rep cA D Λ σ H) (hS : va_S (dm Λ) s.heap H locs) (hls : ls.size = nL) {index a0 : Nat} {sp dp n : Int32} (h0 : isK Λ a0 8) (h1 : isK Λ a 8) (hg : gdc sp dp n (ln Λ a0) (ln Λ a) = true) (hlk : Cond.methodLink own index arraycopyName ∈ Ts) (hnat : Cond.native arraycopyName ∈ Ts) (hstat : Cond.static arraycopyName ∈ Ts) (hini : Cond.initialized "java/lang/System" ∈ Ts)
    (hframes : 1 ≤ R.frames) (hlocals : (rest.map fun v => v.category).sum + (nativeFrameWords "java/lang/System" "arraycopy" 5 + 11) ≤ R.locals) (hdg : decode cc pc = .ok (.invokestatic index, 3))
    (kk1 : ∀ (σ1 : Sto) (H1 : Heap) (locs1 : List Loc), σ1 = cpJ σ a0 a sp.toNatClampNeg dp.toNatClampNeg n.toNatClampNeg → Rep cA D Λ σ1 H1 → va_S (dm Λ) s.heap H1 locs1 → W p l e R s m args below meth c H1 locs1 cells slots Q (F0 m (pc + 3) ls rest)) : W p l e R s m args below meth c H locs cells slots Q (F0 m pc ls (.int n :: .int dp :: .ref a :: .int sp :: .ref a0 :: rest)) := by
  obtain ⟨hx, hb, -, hml, hown, hts, -⟩ := X
  obtain ⟨q0, hq0⟩ := pl_at (f := ent cA Λ σ) h0.1
  obtain ⟨q, hq⟩ := pl_at (f := ent cA Λ σ) h1.1
  have hq2 := hq
  rw [ent_8 h1.2] at hq2
  rw [ent_8 h0.2] at hq0
  obtain ⟨g1, g2, g3, g4, g5⟩ := of_decide_eq_true hg
  refine va_copyl hx hb (hml.trans hls.symm) hown (hts _ hlk) (hts _ hnat) (hts _ hstat) (hts _ hini) hK.1 hR (dD hT.1 _) hS q0 q 1 1 hq0 hq2 rfl rfl rfl g1 g2 g3 g4 g5 (fun _ _ => rfl) hframes hlocals hdg (fun H1 locs1 hP1 hD1 hS1 => kk1 _ H1 locs1 rfl ?_ hS1)
  rw [pl_set (g := ent cA Λ (cpJ σ a0 a sp.toNatClampNeg dp.toNatClampNeg n.toNatClampNeg)) hT.1 h1.1 hq ?_] at hP1
  · exact hP1
  · intro b
    by_cases hb : b = a
    · subst hb; rw [va_up_self, ent_8 h1.2]; simp [cpJ]
    · rw [va_up_ne _ _ hb]
      exact ent_cong rfl (by simp [cpJ, hb])
theorem rt_i {res : Int32 × Sto} {v : Int32} {τ : Sto} (X : Cx cc (some .int) nL own Ts p s m args meth c) (hR : Rep cA D Λ τ H) (hS : va_S (dm Λ) s.heap H locs) (hv : (v, τ) = res) (hdg : decode cc pc = .ok (.ireturn, 1)) : W p l e R s m args below meth c H locs 0 0 (MQ below (QI cA D Λ res) args s 0 0 (dm Λ)) (F0 m pc ls [.int v]) := by
  subst hv
  exact W.iret X.1 X.2.1 X.2.2.1 (fun t ht hW => ⟨⟨v, τ, rfl, ⟨rfl, rfl⟩, (show Rep cA D Λ τ t.heap by rw [ht]; exact hR)⟩, hS.F ht⟩) hS.2.2 hdg X.2.2.2.2.2.2
theorem nar_bool {v : Int32} (h : v = 0 ∨ v = 1) : narrow .boolean (.int v) = .int v := by rcases h with rfl | rfl <;> decide
theorem rt_z {res : Int32 × Sto} {v : Int32} {τ : Sto} (X : Cx cc (some .boolean) nL own Ts p s m args meth c) (hR : Rep cA D Λ τ H) (hS : va_S (dm Λ) s.heap H locs) (hv : (v, τ) = res) (hb : v = 0 ∨ v = 1) (hdg : decode cc pc = .ok (.ireturn, 1)) : W p l e R s m args below meth c H locs 0 0 (MQ below (QZ cA D Λ res) args s 0 0 (dm Λ)) (F0 m pc ls [.int v]) := by
  subst hv
  exact W.zret X.1 X.2.1 X.2.2.1 (nar_bool hb) (fun t ht hW => ⟨⟨v, τ, rfl, ⟨rfl, rfl, hb⟩, (show Rep cA D Λ τ t.heap by rw [ht]; exact hR)⟩, hS.F ht⟩) hS.2.2 hdg X.2.2.2.2.2.2
theorem rt_l {res : Int64 × Sto} {v : Int64} {τ : Sto} (X : Cx cc (some .long) nL own Ts p s m args meth c) (hR : Rep cA D Λ τ H) (hS : va_S (dm Λ) s.heap H locs) (hv : (v, τ) = res) (hdg : decode cc pc = .ok (.lreturn, 1)) : W p l e R s m args below meth c H locs 0 0 (MQ below (QL cA D Λ res) args s 0 0 (dm Λ)) (F0 m pc ls [.long v]) := by
  subst hv
  exact W.lret X.1 X.2.1 X.2.2.1 (fun t ht hW => ⟨⟨v, τ, rfl, ⟨rfl, rfl⟩, (show Rep cA D Λ τ t.heap by rw [ht]; exact hR)⟩, hS.F ht⟩) hS.2.2 hdg X.2.2.2.2.2.2
theorem rt_v {res τ : Sto} (X : Cx cc none nL own Ts p s m args meth c) (hR : Rep cA D Λ τ H) (hS : va_S (dm Λ) s.heap H locs) (hv : τ = res) (hdg : decode cc pc = .ok (.return_, 1)) : W p l e R s m args below meth c H locs 0 0 (MQ below (QV cA D Λ res) args s 0 0 (dm Λ)) (F0 m pc ls []) := by
  subst hv
  exact W.vret X.1 X.2.1 X.2.2.1 (fun t ht hW => ⟨⟨τ, rfl, rfl, (show Rep cA D Λ τ t.heap by rw [ht]; exact hR)⟩, hS.F ht⟩) hS.2.2 hdg X.2.2.2.2.2.2
theorem rt_q {kk : Nat} {res : Option Nat × Sto} {v : Option Nat} {τ : Sto} {C : String} (X : Cx cc (some (.object C)) nL own Ts p s m args meth c) (hR : Rep cA D Λ τ H) (hS : va_S (dm Λ) s.heap H locs) (hv : (v, τ) = res) (hk : ∀ a, v = some a → isK Λ a kk) (hdg : decode cc pc = .ok (.areturn, 1)) : W p l e R s m args below meth c H locs 0 0 (MQ below (QQ kk cA D Λ res) args s 0 0 (dm Λ)) (F0 m pc ls [va_rf v]) := by
  subst hv
  exact W.aret X.1 X.2.1 X.2.2.1 (Or.inl ⟨C, rfl⟩) (va_rf_or v) (fun t ht hW => ⟨⟨v, τ, rfl, ⟨rfl, rfl, hk⟩, (show Rep cA D Λ τ t.heap by rw [ht]; exact hR)⟩, hS.F ht⟩) hS.2.2 hdg X.2.2.2.2.2.2
end MR
section MC
variable {p : Program} {l : Launch} {e : Env} {R : Room} {s : State} {m : MethodId} {args : Array Value} {below : List Frame} {meth : Method} {c : Code} {H : Heap} {locs : List Loc} {cells slots : Nat} {Q : State → Prop}
variable {cc : ByteArray} {ret : Option FieldType} {nL : Nat} {own : String} {Ts : List Cond} {cA : Nat → ClassId} {D : va_G} {Λ : Lay} {σ : Sto} {pc : Nat} {ls : Array Slot} {rest st0 : List Value} {a : Nat}
variable {y : MethodName} {bytes : ByteArray} {maxL n index : Nat} {rety : Option FieldType} {ws : List Cond} {rm : Room} {Qc : Array Value → State → Outcome → State → Prop} {As : List Value} {av : Array Value}
theorem sw_in {dflt hi : Int} {offs : Array Int} {len k tgt : Nat} {x : Int32} {off : Int} (hexec : p.tables.exec = Jvm.exec) (hb : c.code = cc) (hdg : decode cc pc = .ok (.tableswitch dflt 0 hi offs, len)) (hc : x = Int32.ofNat k) (hk : k < 1000) (hh : (k : Int) ≤ hi) (ho : offs[k]? = some off) (ht : (pc : Int) + off = (tgt : Int))
    (kk1 : W p l e R s m args below meth c H locs cells slots Q (F0 m tgt ls rest)) : W p l e R s m args below meth c H locs cells slots Q (F0 m pc ls (.int x :: rest)) := by
  have hx : x.toInt = (k : Int) := by rw [hc]; exact nI_toInt (n := k) (by omega)
  exact lv_tableIn hexec hb hdg (by rw [hx]; omega) (by rw [hx]; omega) (by rw [hx]; simpa using ho) ht kk1
theorem rn_V {C : String} {T : u_T} {N kk : Nat} (X : Cx cc ret nL own Ts p s m args meth c) (hK : Kn cA D s) (hR : Rep cA D Λ σ H) (h0 : isK Λ a kk) (hc : vwCl[kk - 1]? = some (C, T, N)) (h7 : kk < 7) (hls : ls.size = nL) (hM : Met l y ws rm (va_Pc (.ref a :: As) (PW cA D Λ σ)) Qc 0 0 (dm Λ)) (cw : CallW R s args own C index y bytes maxL rety ws rm 0 0 n) (hn : As.length = n) (hst : st0 = As.reverse ++ .ref a :: rest) (hW : (rest.map fun v => v.category).sum ≤ 8) (hdg : decode cc pc = .ok (.invokevirtual index, 3)) (hf : cells ≤ R.cells ∧ slots ≤ R.slots := by exact ⟨Nat.zero_le _, Nat.zero_le _⟩) :
    va_Run p l e R s m args below meth c H locs cells slots 0 0 (F0 m pc ls st0) rest (Qc (Value.ref a :: As).toArray) (dm Λ) := by
  obtain ⟨q, hq⟩ := pl_at (f := ent cA Λ σ) h0.1
  rw [ent_o h0.2 h7] at hq
  exact va_runV (Ts := Ts) ⟨X.1, X.2.1, X.2.2.2.1, X.2.2.2.2.1, X.2.2.2.2.2.1⟩ hM cw ⟨PW.blind, va_recv hK.1 hR hc hq, fun U hU hW1 => ⟨rfl, by rw [hU]; exact hR, hK.warm hW1⟩⟩ rfl hn hls hst (lv_room hW) hdg hf
theorem rn_S (X : Cx cc ret nL own Ts p s m args meth c) (hK : Kn cA D s) (hR : Rep cA D Λ σ H) (hls : ls.size = nL) (hM : Met l y ws rm (va_Pc As (PW cA D Λ σ)) Qc 0 0 (dm Λ)) (cw : CallB R s args own index y bytes maxL rety ws rm 0 0 n ∧ (Cond.static y).before args s = true) (hn : As.length = n) (hst : st0 = As.reverse ++ rest) (hW : (rest.map fun v => v.category).sum ≤ 8) (hdg : decode cc pc = .ok (.invokestatic index, 3)) (hf : cells ≤ R.cells ∧ slots ≤ R.slots := by exact ⟨Nat.zero_le _, Nat.zero_le _⟩) :
    va_Run p l e R s m args below meth c H locs cells slots 0 0 (F0 m pc ls st0) rest (Qc As.toArray) (dm Λ) :=
  va_runS (Ts := Ts) ⟨X.1, X.2.1, X.2.2.2.1, X.2.2.2.2.1, X.2.2.2.2.2.1⟩ hM cw ⟨PW.blind, fun U hU hW1 => ⟨rfl, by rw [hU]; exact hR, hK.warm hW1⟩⟩ rfl hn hls hst (lv_room hW) hdg hf
theorem rn_SN {host : String} (X : Cx cc ret nL own Ts p s m args meth c) (hK : Kn cA D s) (hR : Rep cA D Λ σ H) (hls : ls.size = nL) (hM : Met l y ws rm (va_Pc As (PW cA D Λ σ)) Qc 0 0 (dm Λ)) (cw : va_CN R s args own index y host bytes maxL rety ws rm 0 0 n ∧ (Cond.static y).before args s = true ∧ True) (hn : As.length = n) (hst : st0 = As.reverse ++ rest) (hW : (rest.map fun v => v.category).sum ≤ 8) (hdg : decode cc pc = .ok (.invokestatic index, 3)) (hf : cells ≤ R.cells ∧ slots ≤ R.slots := by exact ⟨Nat.zero_le _, Nat.zero_le _⟩) :
    va_Run p l e R s m args below meth c H locs cells slots 0 0 (F0 m pc ls st0) rest (Qc As.toArray) (dm Λ) :=
  va_runSN (Ts := Ts) ⟨X.1, X.2.1, X.2.2.2.1, X.2.2.2.2.1, X.2.2.2.2.2.1⟩ hM cw ⟨PW.blind, fun U hU hW1 => ⟨rfl, by rw [hU]; exact hR, hK.warm hW1⟩⟩ rfl hn hls hst (lv_room hW) hdg hf
theorem cl_i {res : Int32 × Sto} (hr : va_Run p l e R s m args below meth c H locs cells slots 0 0 (F0 m pc ls st0) rest (QI cA D Λ res av) (dm Λ)) (hS : va_S (dm Λ) s.heap H locs)
    (kk1 : ∀ (H1 : Heap) (locs1 : List Loc), Rep cA D Λ res.2 H1 → va_S (dm Λ) s.heap H1 locs1 → W p l e R s m args below meth c H1 locs1 cells slots Q (F0 m (pc + 3) ls (.int res.1 :: rest))) : W p l e R s m args below meth c H locs cells slots Q (F0 m pc ls st0) := by
  refine va_calli hr hS (fun _ _ h => h) (fun _ h => h) (fun r u t H1 locs1 ht _ hp hB _ _ hS1 => ?_)
  obtain ⟨rfl, rfl⟩ := hp
  exact kk1 H1 locs1 (by rw [← ht]; exact hB) hS1
theorem cl_z {res : Int32 × Sto} (hr : va_Run p l e R s m args below meth c H locs cells slots 0 0 (F0 m pc ls st0) rest (QZ cA D Λ res av) (dm Λ)) (hS : va_S (dm Λ) s.heap H locs)
    (kk1 : (res.1 = 0 ∨ res.1 = 1) → ∀ (H1 : Heap) (locs1 : List Loc), Rep cA D Λ res.2 H1 → va_S (dm Λ) s.heap H1 locs1 → W p l e R s m args below meth c H1 locs1 cells slots Q (F0 m (pc + 3) ls (.int res.1 :: rest))) : W p l e R s m args below meth c H locs cells slots Q (F0 m pc ls st0) := by
  refine va_calli hr hS (fun _ _ h => h) (fun _ h => h) (fun r u t H1 locs1 ht _ hp hB _ _ hS1 => ?_)
  obtain ⟨rfl, rfl, hz⟩ := hp
  exact kk1 hz H1 locs1 (by rw [← ht]; exact hB) hS1
theorem cl_l {res : Int64 × Sto} (hr : va_Run p l e R s m args below meth c H locs cells slots 0 0 (F0 m pc ls st0) rest (QL cA D Λ res av) (dm Λ)) (hS : va_S (dm Λ) s.heap H locs)
    (kk1 : ∀ (H1 : Heap) (locs1 : List Loc), Rep cA D Λ res.2 H1 → va_S (dm Λ) s.heap H1 locs1 → W p l e R s m args below meth c H1 locs1 cells slots Q (F0 m (pc + 3) ls (.long res.1 :: rest))) : W p l e R s m args below meth c H locs cells slots Q (F0 m pc ls st0) := by
  refine va_calll hr hS (fun _ _ h => h) (fun _ h => h) (fun r u t H1 locs1 ht _ hp hB _ _ hS1 => ?_)
  obtain ⟨rfl, rfl⟩ := hp
  exact kk1 H1 locs1 (by rw [← ht]; exact hB) hS1
theorem cl_v {res : Sto} (hr : va_Run p l e R s m args below meth c H locs cells slots 0 0 (F0 m pc ls st0) rest (QV cA D Λ res av) (dm Λ)) (hS : va_S (dm Λ) s.heap H locs)
    (kk1 : ∀ (H1 : Heap) (locs1 : List Loc), Rep cA D Λ res H1 → va_S (dm Λ) s.heap H1 locs1 → W p l e R s m args below meth c H1 locs1 cells slots Q (F0 m (pc + 3) ls rest)) : W p l e R s m args below meth c H locs cells slots Q (F0 m pc ls st0) := by
  refine va_callv hr hS (fun _ _ h => h) (fun _ h => h) (fun u t H1 locs1 ht _ hp hB _ _ hS1 => ?_)
  subst hp
  exact kk1 H1 locs1 (by rw [← ht]; exact hB) hS1
theorem cl_q {kk : Nat} {res : Option Nat × Sto} (hr : va_Run p l e R s m args below meth c H locs cells slots 0 0 (F0 m pc ls st0) rest (QQ kk cA D Λ res av) (dm Λ)) (hS : va_S (dm Λ) s.heap H locs)
    (kn : res.1 = none → ∀ (H1 : Heap) (locs1 : List Loc), Rep cA D Λ res.2 H1 → va_S (dm Λ) s.heap H1 locs1 → W p l e R s m args below meth c H1 locs1 cells slots Q (F0 m (pc + 3) ls (.null :: rest)))
    (ks : ∀ b : Nat, res.1 = some b → isK Λ b kk → ∀ (H1 : Heap) (locs1 : List Loc), Rep cA D Λ res.2 H1 → va_S (dm Λ) s.heap H1 locs1 → W p l e R s m args below meth c H1 locs1 cells slots Q (F0 m (pc + 3) ls (.ref b :: rest))) : W p l e R s m args below meth c H locs cells slots Q (F0 m pc ls st0) := by
  refine va_callq hr hS (fun _ _ h => h) (fun _ h => h) (fun r u t H1 locs1 ht _ hp hB _ _ hS1 => ?_)
  obtain ⟨rfl, rfl, hk⟩ := hp
  have hB' : Rep cA D Λ res.2 H1 := by rw [← ht]; exact hB
  cases h9 : res.1 with
  | none => exact kn h9 H1 locs1 hB' hS1
  | some b => exact ks b h9 (hk b h9) H1 locs1 hB' hS1
end MC
/-- a method of a class that has natives of its own, by its name: it is none of them -/
theorem ofWF {l : Launch} {y : MethodName} {ws ws' : List Cond} {rm : Room} {Pc : Array Value → State → Prop} {Qc : Array Value → State → Outcome → State → Prop} {mc ms : Nat} {free : Addr → Prop} {cc : ByteArray} {maxL : Nat} {ret : Option FieldType}
    (hy : plainFor y = true) (hw : ws = Cond.code y cc maxL ret :: ws')
    (body : ∀ p e s m args below meth c s₁, BodyLoose p l y (headSpec ws rm) cc maxL ret e s m args below meth c s₁ → c.maxLocals = maxL → Pc args s →
      W p l e (headSpec ws rm).room s m args below meth c s.heap [] 0 0 (MQ below Qc args s mc ms free) (entryFrame m args maxL)) : Met l y ws rm Pc Qc mc ms free := by
  refine MetFree.of_bodySF (code := cc) (maxLocals := maxL) (ret := ret) hy ?_ ?_
  · intro args s m h hn
    obtain ⟨meth, c, h1, h2, h3, h4, h5, h6, -, -⟩ := Cond.code_spec hn (atoms_spec (ws := ws) h _ (by rw [hw]; exact List.mem_cons_self))
    exact ⟨meth, c, h1, h2, h3, h4, h5, h6⟩
  · intro p e s m args below meth c s₁ B hml hP _
    have hh0 : s₁.heap = s.heap := by rw [B.state]; rfl
    obtain ⟨t, a1, o, b1, b2, b3⟩ := body p e s m args below meth c s₁ B hml hP s₁ hh0 (Stand.of_body B)
    exact ⟨t, o, a1, b1, b2, ⟨b3.1, b3.2⟩⟩
