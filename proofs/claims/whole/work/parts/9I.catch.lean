/-! CATCHING, and calls of methods that catch. -/

section XGO
variable {Q : Handler → Pre} {E : CtlPost} {e : Env} {d : Bool} {acts : List Action} {s : State} {f : JFrame} {a : Addr}
theorem xgo_pass {x : ExceptionTableEntry} {t : List ExceptionTableEntry} {c : ClassId} {cell : Cell} (hx : covers x f.pc = true) (h0 : x.catchType ≠ 0)
    (hl : s.vm.ClassLinks e.platform f.method.cls x.catchType c) (hcell : s.heap[a]? = some cell) (hobj : ∀ k, cell.vm ≠ .statics k)
    (hk : ∃ k, s.vm.classes[cell.cls]? = some k) (hc : ∃ k, s.vm.classes[c]? = some k) (hno : s.vm.assignable cell.cls c = false) :
    wp (findHandler.go f a (x :: t)) Q E e d acts s ↔ wp (findHandler.go f a t) Q E e d acts (s.setVm (s.vm.noted f.method.cls x.catchType (.cls c))) := by
  simp only [covers] at hx
  obtain ⟨ha, ht⟩ := (resolveClass_links e.toSetting hl).op (op := VmOp.resolveClass f.method.cls x.catchType) rfl
  have hal : s.vm.Alike (s.vm.noted f.method.cls x.catchType (.cls c)) := (Vm.Alike.refl s.vm).noted _ _ _
  obtain ⟨k1, hk1⟩ := hk
  obtain ⟨k2, hk2⟩ := hc
  obtain ⟨k1', hk1', -⟩ := hal.2.2 _ _ hk1
  obtain ⟨k2', hk2', -⟩ := hal.2.2 _ _ hk2
  have hno' : (s.vm.noted f.method.cls x.catchType (.cls c)).assignable cell.cls c = false := by rw [hal.assignable]; exact hno
  simp [findHandler.go, hx, h0, ha, ht, hcell, hobj, hk1', hk2', hno', VmOp.dirties, VmOp.acts]
end XGO

section XCA
variable {p : Program} {l : Launch} {e : Env} {R : Room} {s : State} {m : MethodId} {args : Array Value} {below : List Frame} {meth : Method} {c : Code} {locs : List Loc} {cells slots : Nat}
/-- an entry of a table of handlers, and its class; whether the object is of it -/
def xEnt (own : String) (args : Array Value) (s : State) (pc : Nat) (ci : ClassId) (q : ExceptionTableEntry × String) (b : Bool) : Prop := covers q.1 pc = true ∧ q.1.catchType ≠ 0 ∧ (Cond.classLink own q.1.catchType q.2).before args s = true ∧ ∃ cT, s.vm.findClass q.2 = some cT ∧ s.vm.assignable ci cT = b
theorem xgo_all {own : String} {g : JFrame} (hg : g.method = m) (hown : s.vm.findClass own = some m.cls) {a : Addr} {cell : Cell} (hobj : cell.vm.isStatics = false) (hkc : ∃ k, s.vm.classes[cell.cls]? = some k) (x : ExceptionTableEntry × String) (hx : xEnt own args s g.pc cell.cls x true) (rest : List ExceptionTableEntry) :
    ∀ (ps : List (ExceptionTableEntry × String)) (T : State), Stand p l e R s m args below meth c T locs cells slots → T.heap[a]? = some cell → (∀ q ∈ ps, xEnt own args s g.pc cell.cls q false) →
    ∃ vm', Stand p l e R s m args below meth c (T.setVm vm') locs cells slots ∧ ∀ (Q : Handler → Pre) (E : CtlPost) (d : Bool) (acts : List Action), wp (findHandler.go g a (ps.map Prod.fst ++ x.1 :: rest)) Q E e d acts ((T.setTop g).pushFrame (.throwing a)) ↔ Q (.found x.1.handlerPc) d acts (((T.setTop g).pushFrame (.throwing a)).setVm vm')
  | [], T, X, hcell, _ => by
    obtain ⟨h1, h2, h3, cT, h4, h5⟩ := hx
    have hpl : e.platform.magicAccessors = ({} : Platform).magicAccessors := by rw [X.admits.platform]
    obtain ⟨c', hc', hcl⟩ := Cond.classLink_spec hown h3 e.platform hpl
    cases h4.symm.trans hc'
    obtain ⟨dk, _, _, kt, hd, _, _, _, _, hkt, _, hopen⟩ := hcl.here
    have hcl₀ := X.warmed.classLinks hcl
    have hW' : s.WarmedH (T.vm.noted m.cls x.1.catchType (.cls cT)) := X.warmed.noted hd hopen (State.rightAt_cls hcl)
    have hal := X.warmed.alike
    obtain ⟨kt', hkt', -⟩ := hal.2.2 _ _ hkt
    obtain ⟨k1, hk1⟩ := hkc
    obtain ⟨k1', hk1', -⟩ := hal.2.2 _ _ hk1
    have hfit' : T.vm.assignable cell.cls cT = true := by rw [hal.assignable]; exact h5
    subst hg
    exact ⟨_, X.noted hW', fun Q E d acts => W.findHandler_go_link (s := (T.setTop g).pushFrame (.throwing a)) h1 h2 hcl₀ hcell (VmData.ne_statics_of hobj) ⟨k1', hk1'⟩ ⟨kt', hkt'⟩ hfit'⟩
  | q :: ps, T, X, hcell, hps => by
    obtain ⟨h1, h2, h3, cT, h4, h5⟩ := hps q List.mem_cons_self
    have hpl : e.platform.magicAccessors = ({} : Platform).magicAccessors := by rw [X.admits.platform]
    obtain ⟨c', hc', hcl⟩ := Cond.classLink_spec hown h3 e.platform hpl
    cases h4.symm.trans hc'
    obtain ⟨dk, _, _, kt, hd, _, _, _, _, hkt, _, hopen⟩ := hcl.here
    have hcl₀ := X.warmed.classLinks hcl
    have hW' : s.WarmedH (T.vm.noted m.cls q.1.catchType (.cls cT)) := X.warmed.noted hd hopen (State.rightAt_cls hcl)
    have hal := X.warmed.alike
    obtain ⟨kt', hkt', -⟩ := hal.2.2 _ _ hkt
    obtain ⟨k1, hk1⟩ := id hkc
    obtain ⟨k1', hk1', -⟩ := hal.2.2 _ _ hk1
    have hfit' : T.vm.assignable cell.cls cT = false := by rw [hal.assignable]; exact h5
    obtain ⟨vm', X', hgo⟩ := xgo_all hg hown hobj hkc x hx rest ps _ (X.noted hW') hcell (fun q hq => hps q (List.mem_cons_of_mem _ hq))
    subst hg
    refine ⟨vm', X', fun Q E d acts => ?_⟩
    refine Iff.trans (xgo_pass (s := (T.setTop g).pushFrame (.throwing a)) h1 h2 hcl₀ hcell (VmData.ne_statics_of hobj) ⟨k1', hk1'⟩ ⟨kt', hkt'⟩ hfit') ?_
    exact hgo Q E d acts
/-- a thrown object is caught by the first entry of whose class it is -/
theorem xcaught {own : String} {g : JFrame} {T : State} (X : Stand p l e R s m args below meth c T locs cells slots) (hg : g.method = m) (hown : s.vm.findClass own = some m.cls) {a : Addr} {cell : Cell} (hobj : cell.vm.isStatics = false) (hkc : ∃ k, s.vm.classes[cell.cls]? = some k) (hcell : T.heap[a]? = some cell)
    (ps : List (ExceptionTableEntry × String)) (x : ExceptionTableEntry × String) (rest : List ExceptionTableEntry) (hsplit : c.exceptionTable.toList = ps.map Prod.fst ++ x.1 :: rest) (hps : ∀ q ∈ ps, xEnt own args s g.pc cell.cls q false) (hx : xEnt own args s g.pc cell.cls x true) :
    ∃ vm', Stand p l e R s m args below meth c (T.setVm vm') locs cells slots ∧
      ∀ target, Steps p.tables e below ((T.setVm vm').setTop { g with pc := x.1.handlerPc, stack := [.ref a] }) target → Steps p.tables e below ((T.setTop g).pushFrame (.throwing a)) target := by
  obtain ⟨vm', X', hgo⟩ := xgo_all hg hown hobj hkc x hx rest ps T X hcell hps
  refine ⟨vm', X', fun target hrest => ?_⟩
  subst hg
  refine Steps.caughtTo X.here (vm' := vm') (fun Q E d acts => ?_) hrest
  rw [W.findHandler_eq (s := (T.setTop g).pushFrame (.throwing a)) (meth := meth) (code := c) X.method' X.code, hsplit]
  exact hgo Q E d acts
end XCA
section XSW
variable {p : Program} {l : Launch} {e : Env} {R : Room} {s : State} {m : MethodId} {args : Array Value} {below : List Frame} {meth : Method} {c : Code} {H : Heap} {T : State} {locs : List Loc} {cells slots : Nat} {y : MethodName} {bytes cc : ByteArray} {maxL nL mc ms n index : Nat} {ret : Option FieldType} {ws ws' : List Cond} {rm : Room} {Pc : Array Value → State → Prop} {Qc : Array Value → State → Outcome → State → Prop} {free : Addr → Prop} {Ts : List Cond} {own : String} {As rest : List Value} {g : JFrame} {hh : List (Nat × Nat × Nat × Nat)}
/-- a static method that catches, called -/
theorem xrunSW (S : CallFix p m c cc nL s args Ts own) (hM : Met l y ws rm Pc Qc mc ms free) (hG : GoodIn Ts ws) (hw : ws = Cond.codeWith y bytes maxL ret hh :: ws') (hrc : rm.cells = mc) (hrs : rm.slots = ms) (hini : Cond.initialized y.cls ∈ Ts) (hl : Cond.methodLink own index y ∈ Ts) (hst : Cond.static y ∈ Ts)
    (hy : y.cls ≠ "java/lang/invoke/MethodHandle" ∧ y.cls ≠ "java/lang/invoke/VarHandle" ∧ (parseMethodDescriptor y.desc).map (fun d => d.parameters.length) = some n) (hR : rm.frames + 1 ≤ R.frames ∧ 8 + (maxL + 11) + rm.locals ≤ R.locals) (hp : PreS s H Pc As)
    (hg : g.method = m) (hn : As.length = n) (hsize : g.locals.size = nL) (hstack : g.stack = As.reverse ++ rest) (hW : 2 * g.monitorRoom + (rest.map fun v => v.category).sum ≤ 8) (hdg : decode cc g.pc = .ok (.invokestatic index, 3)) (hf : cells + mc ≤ R.cells ∧ slots + ms ≤ R.slots) :
    va_Run p l e R s m args below meth c H locs cells slots mc ms g rest (Qc As.toArray) (free) := by
  obtain ⟨hx, hb, hml, ho, hts⟩ := S
  have hcw : Cond.codeWith y bytes maxL ret hh ∈ ws := by rw [hw]; exact List.mem_cons_self
  have hini' := hts _ hini
  have hK : Back l R p e below s args y 3 8 (PreOf R mc ms Pc) (PostOf Qc mc ms free) := va_backW (hh := hh) (bytes := bytes) (maxL := maxL) (ret := ret) hM hp.1 hrc hrs hR.1 hR.2 (pay_in hts hG) hcw (fun a' U hW => word_at hW (Or.inl (by first | rfl | simp [Cond.onTables, Cond.keeps, Cond.steady])) hini')
  have hcode := hts _ (hG _ hcw).1
  intro T hT X
  obtain ⟨mk, methM, cM, hnamed, hmethM, -, -, -, -, -, -, hsigM⟩ := Cond.codeWith_spec hcode
  have hstatic : methM.isStatic = true := Cond.static_spec hnamed hmethM (hts _ hst)
  obtain ⟨kP, hkP, -⟩ := className_of_methodNamed hnamed
  have hinitP : kP.init = .initialized := Cond.initialized_spec (findClass_of_methodNamed hnamed) hkP hini'
  have hlen : As.length = methM.sig.parameters.length := by
    have h2 := hy.2.2
    rw [hsigM] at h2
    exact hn.trans (Option.some.inj h2).symm
  obtain ⟨vm₁, X₁, hstep₁⟩ := X.invokestatic hx ho (hts _ hl) hnamed hmethM hstatic hkP hinitP ⟨hy.1, hy.2.1⟩ (g := g) hg (argsL := As) (rest := rest) hlen hstack (by rw [hb]; exact hdg)
  obtain ⟨v, ⟨U', l2, c2, s2⟩, X', ⟨g', mk', t, L, e1, e2, hq, h1, hL, h2, h3⟩, hsteps⟩ := hK m meth c ⟨T.setVm vm₁, locs, cells, slots⟩ { g with stack := rest } (.invokestatic index) mk As.toArray X₁ hg (hsize.trans hml.symm) (by rw [hb]; exact hdg) hW (X₁.named hnamed) ⟨hf.1, hf.2, hp.2 (T.setVm vm₁) hT X₁.warmed⟩
  dsimp only [Pt.U, Pt.locs, Pt.cells, Pt.slots] at X' e1 e2 h1 h2 h3 hsteps
  subst h1; subst h2; subst h3
  exact ⟨v, (T.setVm vm₁).calling g' mk' As.toArray, t, U', L, hT, X', hL, e1, e2, hq, fun target h => hstep₁ _ fun acts => by rw [doInvoke_state]; exact hsteps.trans h⟩
end XSW
