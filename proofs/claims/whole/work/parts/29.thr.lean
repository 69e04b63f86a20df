/-! METHODS THAT THROW, and the law's three that catch -/
/-- the throw's words that a method's own list can't hold -/
def ngW : List Cond := (nsAt RX4 114).filter (fun w => !goodWord w)
theorem ngW_ok : ∀ w ∈ ngW, w.keepsFace = true ∧ w.onTables = true := by decide +kernel
theorem ngW_warm {s U : State} (hW : s.WarmedH U.vm) (h : ∀ w ∈ ngW, va_Nw w s) : ∀ w ∈ ngW, va_Nw w U := fun w hw => va_tabs (ngW_ok w hw).2 (rfl : (s.setVm U.vm).vm = U.vm) (Cond.before_shiftedFace (args := #[]) (State.Shifted.of_warmed hW) w (ngW_ok w hw).1 (h w hw))
def XK (Λ : Lay) (sa : Nat → Nat) (U : State) (H : Heap) : Prop := vx_Zq Bundle.tN "UNASSIGNED_STACK" Bundle.steD (dm Λ) U H ∧ vx_Zq Bundle.tN "SUPPRESSED_SENTINEL" Bundle.listD (dm Λ) U H ∧ vk_R RX4 112 "no such row" (sa 0) U ∧ vk_R RX4 195 "no such point" (sa 1) U ∧ vk_R RX4 236 "no such number" (sa 2) U ∧ ∀ w ∈ ngW, va_Nw w U
theorem XK.warm {Λ : Lay} {sa : Nat → Nat} {s U : State} {H : Heap} (hW : s.WarmedH U.vm) (h : XK Λ sa s H) : XK Λ sa U H := ⟨h.1.moved hW.alike, h.2.1.moved hW.alike, h.2.2.1.warm hW, h.2.2.2.1.warm hW, h.2.2.2.2.1.warm hW, ngW_warm hW h.2.2.2.2.2⟩
theorem XK.same {Λ : Lay} {sa : Nat → Nat} {u U : State} {H : Heap} (hv : U.vm = u.vm) (h : XK Λ sa u H) : XK Λ sa U H := ⟨h.1.moved (by rw [hv]; exact Vm.Alike.refl _), h.2.1.moved (by rw [hv]; exact Vm.Alike.refl _), h.2.2.1.same hv, h.2.2.2.1.same hv, h.2.2.2.2.1.same hv, fun w hw => va_Nw.same (ngW_ok w hw).2 hv.symm (h.2.2.2.2.2 w hw)⟩
theorem XK.kept {Λ : Lay} {sa : Nat → Nat} {U : State} {H H1 : Heap} (h : XK Λ sa U H) (hq : ∀ a : Nat, a < H.size → ¬ dm Λ a → H1[a]? = H[a]?) : XK Λ sa U H1 := ⟨h.1.kept hq, h.2.1.kept hq, h.2.2⟩
def PX (cA : Nat → ClassId) (D : va_G) (Λ : Lay) (sa : Nat → Nat) (σ : Sto) : State → Prop := fun U => PW cA D Λ σ U ∧ XK Λ sa U U.heap
theorem PX.blind {cA : Nat → ClassId} {D : va_G} {Λ : Lay} {sa : Nat → Nat} {σ : Sto} {av : List Value} : FrameBlind (va_Pc av (PX cA D Λ sa σ)) := fun a U g mk q => ⟨q.1, ⟨q.2.1.1, q.2.1.2.calling⟩, XK.same (u := U) rfl q.2.2⟩
def QLo (cA : Nat → ClassId) (D : va_G) (Λ : Lay) (res : Option Int64) (σ : Sto) : Array Value → State → Outcome → State → Prop := va_Ql (fun r (u : Sto) => res = some r ∧ u = σ) (fun u t => Rep cA D Λ u t.heap) (dm Λ)
def QIo (cA : Nat → ClassId) (D : va_G) (Λ : Lay) (res : Option Int32) (σ : Sto) : Array Value → State → Outcome → State → Prop := va_Qi (fun r (u : Sto) => res = some r ∧ u = σ) (fun u t => Rep cA D Λ u t.heap) (dm Λ)
def XO {α : Type} (cA : Nat → ClassId) (D : va_G) (Λ : Lay) (res : Option α) (σ : Sto) : String → State → State → Prop := vx_X (fun (u : Sto) => res = none ∧ u = σ) (fun E u t => E = NSE ∧ Rep cA D Λ u t.heap) (dm Λ)
section TH
variable {p : Program} {l : Launch} {e : Env} {R : Room} {s : State} {m : MethodId} {args : Array Value} {below : List Frame} {meth : Method} {c : Code} {H : Heap} {locs : List Loc}
variable {cc : ByteArray} {ret : Option FieldType} {nL : Nat} {Ts : List Cond} {cA : Nat → ClassId} {D : va_G} {Λ : Lay} {σ : Sto} {pc : Nat} {ls : Array Slot} {own : String}
theorem rtx_l {res : Option Int64} {v : Int64} (X : Cx cc (some .long) nL own Ts p s m args meth c) (hR : Rep cA D Λ σ H) (hS : va_S (dm Λ) s.heap H locs) (hv : some v = res) (hdg : decode cc pc = .ok (.lreturn, 1)) : W p l e R s m args below meth c H locs 0 0 (vx_MQ below (QLo cA D Λ res σ) (XO cA D Λ res σ) args s 1 6 (dm Λ)) (F0 m pc ls [.long v]) := by
  refine vx_ret (W.widen (k := 1) (n := 6) (Nat.zero_le _) (Nat.zero_le _) ?_)
  exact W.lret X.1 X.2.1 X.2.2.1 (fun t ht hW => ⟨⟨v, σ, rfl, ⟨hv.symm, rfl⟩, (show Rep cA D Λ σ t.heap by rw [ht]; exact hR)⟩, hS.F ht⟩) hS.2.2 hdg X.2.2.2.2.2.2
theorem rtx_i {res : Option Int32} {v : Int32} (X : Cx cc (some .int) nL own Ts p s m args meth c) (hR : Rep cA D Λ σ H) (hS : va_S (dm Λ) s.heap H locs) (hv : some v = res) (hdg : decode cc pc = .ok (.ireturn, 1)) : W p l e R s m args below meth c H locs 0 0 (vx_MQ below (QIo cA D Λ res σ) (XO cA D Λ res σ) args s 1 6 (dm Λ)) (F0 m pc ls [.int v]) := by
  refine vx_ret (W.widen (k := 1) (n := 6) (Nat.zero_le _) (Nat.zero_le _) ?_)
  exact W.iret X.1 X.2.1 X.2.2.1 (fun t ht hW => ⟨⟨v, σ, rfl, ⟨hv.symm, rfl⟩, (show Rep cA D Λ σ t.heap by rw [ht]; exact hR)⟩, hS.F ht⟩) hS.2.2 hdg X.2.2.2.2.2.2
theorem at_ot : ∀ w ∈ Cond.classLink RX4 110 NSE :: Cond.initialized NSE :: nsAt RX4 114, vx_ot w = true := by decide +kernel
theorem tx_throw {α : Type} {res : Option α} {Qc : Array Value → State → Outcome → State → Prop} {is sa9 : Nat} {text : String} (X : Cx cc ret nL RX4 Ts p s m args meth c) (hlt : l.stackTraces = false) (hU : vx_Zq Bundle.tN "UNASSIGNED_STACK" Bundle.steD (dm Λ) s s.heap) (hN : vx_Zq Bundle.tN "SUPPRESSED_SENTINEL" Bundle.listD (dm Λ) s s.heap) (hstr : vk_R RX4 is text sa9 s) (hng : ∀ w ∈ ngW, va_Nw w s) (hat : ∀ w ∈ (nsAt RX4 114).filter goodWord, w ∈ Ts) (hk : Cond.classLink RX4 110 NSE ∈ Ts) (hini : Cond.initialized NSE ∈ Ts) (hR : Rep cA D Λ σ H) (hS : va_S (dm Λ) s.heap H locs) (hls : ls.size = nL) (hM : 6 ≤ R.frames ∧ 82 ≤ R.locals ∧ 1 ≤ R.cells ∧ 6 ≤ R.slots) (hout : ∀ x ∈ c.exceptionTable.toList, False)
    (d0 : decode cc pc = .ok (.new 110, 3)) (d3 : decode cc (pc + 3) = .ok (.dup, 1)) (d4 : decode cc (pc + 4) = .ok (.ldc is, 2)) (d6 : decode cc (pc + 6) = .ok (.invokespecial 114, 3)) (d9 : decode cc (pc + 9) = .ok (.athrow, 1)) (hres : res = none) : W p l e R s m args below meth c H locs 0 0 (vx_MQ below Qc (XO cA D Λ res σ) args s 1 6 (dm Λ)) (F0 m pc ls []) := by
  obtain ⟨hx, hb, -, hml, hown, hts, hlocks⟩ := X
  refine ns_throw hx hb hlt (own := RX4) (text := text) hown (hts _ hk) (hts _ hini) hstr (vx_hat (B := ngW) (fun w hw => hts w (hat w hw)) (fun _ hw => hw) (fun w hw => va_Nw.use (ngW_ok w hw).2 (hng w hw))) at_ot hU hN hS (hls.trans hml.symm) d0 d3 d4 d6 d9 (fun x hx => (hout x hx).elim) (by show 2 + 3 < R.frames; omega) (by show 0 + (13 * (2 + 1) + 43) ≤ R.locals; omega) (by omega) (by omega) hlocks (fun t ha hz hq => ?_) hS.2.2 (by omega) (by omega)
  refine ⟨σ, ⟨hres, rfl⟩, ⟨rfl, ?_⟩, Nat.le_trans hS.1 hz, fun q h1 h2 => (hq q (Nat.lt_of_lt_of_le h1 hS.1)).trans (hS.2.1 q h1 h2)⟩
  exact va_P.kept hR (fun k x hx => hq x.1 ((hR k x hx).lt))
/-- a method with an exception table, by its name, that returns -/
theorem ofWH {y : MethodName} {ws ws' : List Cond} {rm : Room} {Pc : Array Value → State → Prop} {Qc : Array Value → State → Outcome → State → Prop} {mc ms : Nat} {free : Addr → Prop} {maxL : Nat} {hh : List (Nat × Nat × Nat × Nat)}
    (hy : plainName y.cls = true) (hw : ws = Cond.codeWith y cc maxL ret hh :: ws')
    (body : ∀ p e s m args below meth c s₁, BodyLoose p l y (headSpec ws rm) cc maxL ret e s m args below meth c s₁ → c.maxLocals = maxL → c.exceptionTable.toList = tableOf hh → Pc args s →
      W p l e (headSpec ws rm).room s m args below meth c s.heap [] 0 0 (MQ below Qc args s mc ms free) (entryFrame m args maxL)) : Met l y ws rm Pc Qc mc ms free := by
  refine MetFree.of_bodyS (code := cc) (maxLocals := maxL) (ret := ret) hy ?_ ?_
  · intro args s m h hn
    obtain ⟨m9, meth, c, hn9, h1, h2, h3, h4, -, h5, h6, -⟩ := Cond.codeWith_spec (atoms_spec (ws := ws) h _ (by rw [hw]; exact List.mem_cons_self))
    cases hn.symm.trans hn9
    exact ⟨meth, c, h1, h2, h3, h4, h5, h6⟩
  · intro p e s m args below meth c s₁ B hml hP _
    have hh0 : s₁.heap = s.heap := by rw [B.state]; rfl
    obtain ⟨t, a1, o, b1, b2, b3⟩ := body p e s m args below meth c s₁ B hml (vx_table (x := y) B (atoms_spec (ws := ws) B.pre _ (by rw [hw]; exact List.mem_cons_self))) hP s₁ hh0 (Stand.of_body B)
    exact ⟨t, o, a1, b1, b2, ⟨b3.1, b3.2⟩⟩
end TH
/-! a throw that comes back from a callee, caught by the method's one handler -/
def FndT (e : Env) (s : State) (f : JFrame) (a : Addr) (h : Handler) (vm' : Vm) : Prop :=
  ∀ (Q : Handler → Pre) (E : CtlPost) (d : Bool) (acts : List Action), wp (findHandler f a) Q E e d acts s ↔ Q h d acts (s.setVm vm')
theorem fnd_go {Q : Handler → Pre} {E : CtlPost} {e : Env} {d : Bool} {acts : List Action} {s : State} {f : JFrame} {a : Addr} {x : ExceptionTableEntry} {t : List ExceptionTableEntry} {c : ClassId} {cell : Cell} (hx : covers x f.pc = true) (h0 : x.catchType ≠ 0)
    (hl : s.vm.ClassLinks e.platform f.method.cls x.catchType c) (hcell : s.heap[a]? = some cell) (hobj : ∀ k, cell.vm ≠ .statics k)
    (hk : ∃ k, s.vm.classes[cell.cls]? = some k) (hc : ∃ k, s.vm.classes[c]? = some k) (hfit : s.vm.assignable cell.cls c = true) :
    wp (findHandler.go f a (x :: t)) Q E e d acts s ↔ Q (.found x.handlerPc) d acts (s.setVm (s.vm.noted f.method.cls x.catchType (.cls c))) := by
  simp only [covers] at hx
  obtain ⟨ha, ht⟩ := (resolveClass_links e.toSetting hl).op (op := VmOp.resolveClass f.method.cls x.catchType) rfl
  have hal : s.vm.Alike (s.vm.noted f.method.cls x.catchType (.cls c)) := (Vm.Alike.refl s.vm).noted _ _ _
  obtain ⟨k1, hk1⟩ := hk
  obtain ⟨k2, hk2⟩ := hc
  obtain ⟨k1', hk1', -⟩ := hal.2.2 _ _ hk1
  obtain ⟨k2', hk2', -⟩ := hal.2.2 _ _ hk2
  have hfit' : (s.vm.noted f.method.cls x.catchType (.cls c)).assignable cell.cls c = true := by rw [hal.assignable]; exact hfit
  simp [findHandler.go, hx, h0, ha, ht, hcell, hobj, hk1', hk2', hfit', VmOp.dirties, VmOp.acts]
theorem step_catch {e : Env} {s : State} {a : Addr} {f : JFrame} {r : List Frame} {pc : Nat} {vm' : Vm} (hfind : FndT e s f a (.found pc) vm') :
    (stepThrowing e s a (.java f :: r)).Is ((s.setVm vm').setFrames (.java { f with pc := pc, stack := [.ref a] } :: r)) [] := by
  simp only [stepThrowing, searchFrame, vmDo]
  generalize hr : Sem.go _ e false [] s = res
  obtain ⟨as, rfl, ha⟩ := Sem.eq_ok_of hr (a := Handler.found pc) (s' := s.setVm vm') (acts' := []) (by simp [hfind _ _ _ _])
  exact ⟨rfl, ha⟩
theorem frames_vm (u : State) (vm' : Vm) (F G : List Frame) : ((u.setFrames F).setVm vm').setFrames G = (u.setVm vm').setFrames G := by
  have h1 : (u.setFrames F).setVm vm' = (u.setVm vm').setFrames F := rfl
  rw [h1, State.setFrames_setFrames]
theorem steps_catch {tb : Tables} {e : Env} {s target : State} {g : JFrame} {c : Code} {below : List Frame} {a : Addr} (h : At s g.method c below) {pc : Nat} {vm' : Vm}
    (hfind : FndT e ((s.setTop g).pushFrame (.throwing a)) g a (.found pc) vm') (hrest : Steps tb e below ((s.setVm vm').setTop { g with pc := pc, stack := [.ref a] }) target) :
    Steps tb e below ((s.setTop g).pushFrame (.throwing a)) target := by
  obtain ⟨hgo, hw⟩ := h.throwing a
  refine Steps.head hgo hw ?_
  rw [stepThread_throwing (frames_entered h.top _), (step_catch (s := (s.setTop g).pushFrame (.throwing a)) hfind).1]
  obtain ⟨g₀, hg⟩ := Option.isSome_iff_exists.mp h.top
  obtain ⟨r, hr⟩ := State.topJava?_eq_some.mp hg
  have hr' : (s.setVm vm').frames = .java g₀ :: r := hr
  rw [State.setTop_of_frames _ hr'] at hrest
  rw [hr, List.tail_cons, State.pushFrame, frames_vm, State.setTop_of_frames _ hr, frames_vm]
  exact hrest
/-- caught by the method's one handler -/
theorem cx_catch {p : Program} {l : Launch} {e : Env} {R : Room} {s : State} {m : MethodId} {args : Array Value} {below : List Frame} {meth : Method} {c : Code} {H : Heap} {locs : List Loc} {cells slots : Nat} {Q : State → Prop} {pc : Nat} {ls : Array Slot} {rest : List Value} {own name E : String} {ce : Cell} {q : Addr} (hown : s.vm.findClass own = some m.cls) (x : ExceptionTableEntry) (hsplit : c.exceptionTable.toList = [x]) (hx : covers x pc = true) (h0 : x.catchType ≠ 0)
    (hlink : (Cond.classLink own x.catchType name).before args s = true) (hcast : (Cond.castable E name).before args s = true) (hcell : H[q]? = some ce) (hv : ce.vm = .none) (hcl : s.vm.findClass E = some ce.cls)
    (kk : W p l e R s m args below meth c H locs cells slots Q (F0 m x.handlerPc ls [.ref q])) : vx_W p l e R s m args below meth c H locs cells slots Q (F0 m pc ls rest) q := by
  intro T hT X
  have hpl : e.platform.magicAccessors = ({} : Platform).magicAccessors := by rw [X.admits.platform]
  obtain ⟨c3, c4, hc3, hc4, hasg⟩ := Cond.castable_spec hcast
  cases Option.some.inj (hc3.symm.trans hcl)
  obtain ⟨c5, hc5, hcl5⟩ := Cond.classLink_spec hown hlink e.platform hpl
  cases Option.some.inj (hc4.symm.trans hc5)
  obtain ⟨k0, hk0, -⟩ := Vm.findClass_spec hcl
  obtain ⟨dk, _, _, kt, hd, _, _, _, _, hkt, _, hopen⟩ := hcl5.here
  obtain ⟨k0', hk0', -⟩ := X.warmed.alike.2.2 _ _ hk0
  obtain ⟨kt', hkt', -⟩ := X.warmed.alike.2.2 _ _ hkt
  have hf : FndT e ((T.setTop (F0 m pc ls rest)).pushFrame (.throwing q)) (F0 m pc ls rest) q (.found x.handlerPc) (T.vm.noted m.cls x.catchType (.cls c4)) := by
    intro Q1 E1 d1 acts1
    rw [W.findHandler_eq (meth := meth) (code := c) X.method' X.code, hsplit]
    exact fnd_go hx h0 (X.warmed.classLinks hcl5) (show T.heap[q]? = some ce by rw [hT]; exact hcell) (fun k hk => by rw [hv] at hk; cases hk) ⟨k0', hk0'⟩ ⟨kt', hkt'⟩ (show T.vm.assignable ce.cls c4 = true by rw [X.warmed.alike.assignable]; exact hasg)
  have X' := X.noted (X.warmed.noted hd hopen (State.rightAt_cls hcl5))
  obtain ⟨t, a1, b1⟩ := kk (T.setVm (T.vm.noted m.cls x.catchType (.cls c4))) hT X'
  exact ⟨t, steps_catch (g := F0 m pc ls rest) X.here hf a1, b1⟩
