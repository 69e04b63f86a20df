/-! METHODS THAT THROW, and the law's three that catch -/
def XK (Λ : Lay) (sa : Nat → Nat) (U : State) (H : Heap) : Prop := vx_Zq Bundle.tN "UNASSIGNED_STACK" Bundle.steD (dm Λ) U H ∧ vx_Zq Bundle.tN "SUPPRESSED_SENTINEL" Bundle.listD (dm Λ) U H ∧ vk_R RX4 112 "no such row" (sa 0) U ∧ vk_R RX4 195 "no such point" (sa 1) U ∧ vk_R RX4 236 "no such number" (sa 2) U
theorem XK.warm {Λ : Lay} {sa : Nat → Nat} {s U : State} {H : Heap} (hW : s.WarmedH U.vm) (h : XK Λ sa s H) : XK Λ sa U H := ⟨h.1.moved hW.alike, h.2.1.moved hW.alike, h.2.2.1.warm hW, h.2.2.2.1.warm hW, h.2.2.2.2.warm hW⟩
theorem XK.same {Λ : Lay} {sa : Nat → Nat} {u U : State} {H : Heap} (hv : U.vm = u.vm) (h : XK Λ sa u H) : XK Λ sa U H := ⟨h.1.moved (by rw [hv]; exact Vm.Alike.refl _), h.2.1.moved (by rw [hv]; exact Vm.Alike.refl _), h.2.2.1.same hv, h.2.2.2.1.same hv, h.2.2.2.2.same hv⟩
theorem XK.kept {Λ : Lay} {sa : Nat → Nat} {U : State} {H H1 : Heap} (h : XK Λ sa U H) (hq : ∀ a : Nat, a < H.size → ¬ dm Λ a → H1[a]? = H[a]?) : XK Λ sa U H1 := ⟨h.1.kept hq, h.2.1.kept hq, h.2.2⟩
def PX (cA : Nat → ClassId) (D : va_G) (Λ : Lay) (sa : Nat → Nat) (σ : Sto) : State → Prop := fun U => PW cA D Λ σ U ∧ XK Λ sa U U.heap
theorem PX.blind {cA : Nat → ClassId} {D : va_G} {Λ : Lay} {sa : Nat → Nat} {σ : Sto} {av : List Value} : FrameBlind (va_Pc av (PX cA D Λ sa σ)) := fun a U g mk q => ⟨q.1, ⟨q.2.1.1, q.2.1.2.calling⟩, XK.same (u := U) rfl q.2.2⟩
def QLo (cA : Nat → ClassId) (D : va_G) (Λ : Lay) (res : Option Int64) (σ : Sto) : Array Value → State → Outcome → State → Prop := va_Ql (fun r (u : Sto) => res = some r ∧ u = σ) (fun u t => Rep cA D Λ u t.heap) (dm Λ)
def QIo (cA : Nat → ClassId) (D : va_G) (Λ : Lay) (res : Option Int32) (σ : Sto) : Array Value → State → Outcome → State → Prop := va_Qi (fun r (u : Sto) => res = some r ∧ u = σ) (fun u t => Rep cA D Λ u t.heap) (dm Λ)
def XO {α : Type} (cA : Nat → ClassId) (D : va_G) (Λ : Lay) (res : Option α) (σ : Sto) : String → State → State → Prop := vx_X (fun (u : Sto) => res = none ∧ u = σ) (fun E u t => E = NSE ∧ Rep cA D Λ u t.heap) (dm Λ)
section TH
variable {p : Program} {l : Launch} {e : Env} {R : Room} {s : State} {m : MethodId} {args : Array Value} {below : List Frame} {meth : Method} {c : Code} {H : Heap} {locs : List Loc}
variable {cc : ByteArray} {ret : Option FieldType} {nL : Nat} {Ts : List Cond} {cA : Nat → ClassId} {D : va_G} {Λ : Lay} {σ : Sto} {pc : Nat} {ls : Array Slot} {own : String}
theorem rtx_l {res : Option Int64} {v : Int64} (X : Cx cc (some .long) nL own Ts p s m args meth c) (hR : Rep cA D Λ σ H) (hS : va_S (dm Λ) s.heap H locs) (hv : some v = res) (hdg : decode cc pc = .ok (.lreturn, 1)) : W p l e R s m args below meth c H locs 0 0 (vx_MQ below (QLo cA D Λ res σ) (XO cA D Λ res σ) args s 1 6 (dm Λ)) (F0 m pc ls [.long v]) := by
  refine vx_ret (W.widen (k := 1) (n := 6) (Nat.zero_le _) (Nat.zero_le _) ?_)
  exact W.lret X.1 X.2.1 X.2.2.1 (fun t ht hW => ⟨⟨v, σ, rfl, ⟨hv.symm, rfl⟩, (show Rep cA D Λ σ t.heap by rw [ht]; exact hR)⟩, hS.F ht⟩) hS.2.2 hdg X.2.2.2.2.2.2
theorem rtx_i {res : Option Int32} {v : Int32} (X : Cx cc (some .int) nL own Ts p s m args meth c) (hR : Rep cA D Λ σ H) (hS : va_S (dm Λ) s.heap H locs) (hv : some v = res) (hdg : decode cc pc = .ok (.ireturn, 1)) : W p l e R s m args below meth c H locs 0 0 (vx_MQ below (QIo cA D Λ res σ) (XO cA D Λ res σ) args s 1 6 (dm Λ)) (F0 m pc ls [.int v]) := by
  refine vx_ret (W.widen (k := 1) (n := 6) (Nat.zero_le _) (Nat.zero_le _) ?_)
  exact W.iret X.1 X.2.1 X.2.2.1 (fun t ht hW => ⟨⟨v, σ, rfl, ⟨hv.symm, rfl⟩, (show Rep cA D Λ σ t.heap by rw [ht]; exact hR)⟩, hS.F ht⟩) hS.2.2 hdg X.2.2.2.2.2.2
theorem at_rest : ∀ w ∈ (nsAt RX4 114).filter (fun w => !goodWord w), w ∈ ([] : List Cond) := by decide +kernel
theorem at_ot : ∀ w ∈ Cond.classLink RX4 110 NSE :: Cond.initialized NSE :: nsAt RX4 114, vx_ot w = true := by decide +kernel
theorem tx_throw {α : Type} {res : Option α} {Qc : Array Value → State → Outcome → State → Prop} {is sa9 : Nat} {text : String} (X : Cx cc ret nL RX4 Ts p s m args meth c) (hlt : l.stackTraces = false) (hU : vx_Zq Bundle.tN "UNASSIGNED_STACK" Bundle.steD (dm Λ) s s.heap) (hN : vx_Zq Bundle.tN "SUPPRESSED_SENTINEL" Bundle.listD (dm Λ) s s.heap) (hstr : vk_R RX4 is text sa9 s) (hat : ∀ w ∈ (nsAt RX4 114).filter goodWord, w ∈ Ts) (hk : Cond.classLink RX4 110 NSE ∈ Ts) (hini : Cond.initialized NSE ∈ Ts) (hR : Rep cA D Λ σ H) (hS : va_S (dm Λ) s.heap H locs) (hls : ls.size = nL) (hM : 6 ≤ R.frames ∧ 82 ≤ R.locals ∧ 1 ≤ R.cells ∧ 6 ≤ R.slots) (hout : ∀ x ∈ c.exceptionTable.toList, False)
    (d0 : decode cc pc = .ok (.new 110, 3)) (d3 : decode cc (pc + 3) = .ok (.dup, 1)) (d4 : decode cc (pc + 4) = .ok (.ldc is, 2)) (d6 : decode cc (pc + 6) = .ok (.invokespecial 114, 3)) (d9 : decode cc (pc + 9) = .ok (.athrow, 1)) (hres : res = none) : W p l e R s m args below meth c H locs 0 0 (vx_MQ below Qc (XO cA D Λ res σ) args s 1 6 (dm Λ)) (F0 m pc ls []) := by
  obtain ⟨hx, hb, -, hml, hown, hts, hlocks⟩ := X
  refine ns_throw hx hb hlt (own := RX4) (text := text) hown (hts _ hk) (hts _ hini) hstr (vx_hat (fun w hw => hts w (hat w hw)) at_rest vx_n) at_ot hU hN hS (hls.trans hml.symm) d0 d3 d4 d6 d9 (fun x hx => (hout x hx).elim) (by show 2 + 3 < R.frames; omega) (by show 0 + (13 * (2 + 1) + 43) ≤ R.locals; omega) (by omega) (by omega) hlocks (fun t ha hz hq => ?_) hS.2.2 (by omega) (by omega)
  refine ⟨σ, ⟨hres, rfl⟩, ⟨rfl, ?_⟩, Nat.le_trans hS.1 hz, fun q h1 h2 => (hq q (Nat.lt_of_lt_of_le h1 hS.1)).trans (hS.2.1 q h1 h2)⟩
  exact va_P.kept hR (fun k x hx => hq x.1 ((hR k x hx).lt))
/-- a method with an exception table, by its name, that returns -/
theorem ofWH {y : MethodName} {ws ws' : List Cond} {rm : Room} {Pc : Array Value → State → Prop} {Qc : Array Value → State → Outcome → State → Prop} {mc ms : Nat} {free : Addr → Prop} {maxL : Nat} {hh : List (Nat × Nat × Nat × Nat)}
    (hy : plainName y.cls = true) (hw : ws = Cond.codeWith y cc maxL ret hh :: ws')
    (body : ∀ p e s m args below meth c s₁, BodyLoose p l y (headSpec ws rm) cc maxL ret e s m args below meth c s₁ → c.maxLocals = maxL → c.exceptionTable.toList = tableOf hh → Pc args s →
      W p l e (headSpec ws rm).room s m args below meth c s.heap [] 0 0 (MQ below Qc args s mc ms free) (entryFrame m args maxL)) : Met l y ws rm Pc Qc mc ms free := by
  refine MetFree.of_bodyS (code := cc) (maxLocals := maxL) (ret := ret) hy ?_ ?_
  · intro args s m h hn
    obtain ⟨m9, meth, c, hn9, h1, h2, h3, h4, -, h5, h6, -⟩ := Cond.codeWith_spec (atoms_spec (ws := ws) h _ (by rw [hw]; exact List.mem_cons_self))
    cases hn.symm.trans hn9
    exact ⟨meth, c, h1, h2, h3, h4, h5, h6⟩
  · intro p e s m args below meth c s₁ B hml hP _
    have hh0 : s₁.heap = s.heap := by rw [B.state]; rfl
    obtain ⟨t, a1, o, b1, b2, b3⟩ := body p e s m args below meth c s₁ B hml (vx_table B (atoms_spec (ws := ws) B.pre _ (by rw [hw]; exact List.mem_cons_self))) hP s₁ hh0 (Stand.of_body B)
    exact ⟨t, o, a1, b1, b2, ⟨b3.1, b3.2⟩⟩
end TH
