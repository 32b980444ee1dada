/-! CALLS, RETURNS AND THROWS. -/
section XC
variable {z : xzs} {p : Program} {l : Launch} {e : Env} {R : Room} {s : State} {m : MethodId} {args : Array Value} {below : List Frame} {meth : Method} {c : Code} {H : Heap} {locs : List Loc} {Q : State → Prop} {cc : ByteArray} {pc : Nat} {ls : Array Slot} {cells slots : Nat}
  {y : MethodName} {bytes : ByteArray} {maxL nL mc ms n index : Nat} {ret : Option FieldType} {ws : List Cond} {rm : Room} {Pc : Array Value → State → Prop} {Qc : Array Value → State → Outcome → State → Prop} {free : Addr → Prop} {Ts : List Cond} {own C : String} {b : Addr} {As rest : List Value} {g : JFrame}
/-- a callee that throws, from the invocation on -/
theorem xthr_core {T : State} (X : Stand p l e R s m args below meth c T locs cells slots) (hM : MetT l y ws rm Pc Qc mc ms free) (hbl : FrameBlind Pc) (cb : CallB R s args own index y bytes maxL ret ws rm mc ms n)
    {g : JFrame} (hg : g.method = m) (hsize : g.locals.size = c.maxLocals) {ig : Jvm.ClassFile.Instr} (hdg : decode c.code g.pc = .ok (ig, 3)) (hW : 2 * g.monitorRoom + (g.stack.map fun v => v.category).sum ≤ 8) {mk : MethodId} (hn : T.methodNamed? y = some mk) {a : Array Value} (hP : Pc a T)
    (hf : cells + mc ≤ R.cells ∧ slots + ms ≤ R.slots) (hthr : ∀ st o t, Qc a st o t → ∃ x, o = .threw x) :
    ∃ (x : Addr) (st₀ t T' : State) (L : List Loc), st₀.heap = T.heap ∧ Stand p l e R s m args below meth c T' (locs ++ L) (cells + mc) (slots + ms) ∧ (∀ q ∈ L, free q.base) ∧ T'.heap = t.heap ∧ Qc a st₀ (.threw x) t ∧
      Steps p.tables e below (doInvoke e (T.setTop g) [] mk a).1 ((T'.setTop g).pushFrame (.throwing x)) := by
  obtain ⟨hrc, hrs, hfr, hlo, hws, hcw, hcode, hini, hy, hlen, hl⟩ := cb
  obtain ⟨methY, cY, hmY, hcY, -, hlY, -, -, -, -⟩ := Cond.code_spec hn (hws _ hcw a T X.warmed)
  obtain ⟨kY, hkY, -⟩ := className_of_methodNamed hn
  have hini' : (Cond.initialized y.cls).before a T = true := word_at X.warmed (Or.inl (by first | rfl | simp [Cond.onTables, Cond.keeps, Cond.steady])) hini
  have hinitY : kY.init = .initialized := Cond.initialized_spec (findClass_of_methodNamed hn) hkY hini'
  have h : At T g.method c below := by rw [hg]; exact X.here
  have happ : (headSpec ws rm).appliesLoose y e.platform (T.calling g mk a) = true :=
    Spec.appliesLoose_calling (g := g) h hdg hn hkY hinitY
      (X.room_calling (g := g) (R' := rm) hsize hmY hcY hfr (by rw [hlY]; omega) (by rw [hrc]; exact hf.1) (by rw [hrs]; exact hf.2)) (atoms_intro fun w hw => hws w hw _ _ X.warmed)
  obtain ⟨mid, hmid⟩ := h.above
  have hfrm : (T.setTop g).frames = (.java g :: mid) ++ below := by rw [State.frames_setTop' g h.top, hmid]; rfl
  obtain ⟨o, s₂, hsteps, -, hend, hq⟩ := Steps.callFree hM p X.admits X.cas X.clock (acts := []) hfrm happ (hbl a T g mk hP) trivial
  obtain ⟨hq1, L, ⟨hw, hsame⟩, hL⟩ := hq
  obtain ⟨x, rfl⟩ := hthr _ _ _ hq1
  rw [State.frames_setTop' g h.top, X.tail] at hend
  obtain ⟨T', X', -, -, ht⟩ := X.outOfThrown hg (mk := mk) (a := a) hend hw hsame
  refine ⟨x, T.calling g mk a, s₂, T', L, rfl, X', hL, ?_, hq1, by rw [← ht]; exact hsteps⟩
  rw [ht, Stand.throwing_heap]
theorem xthrS (S : CallFix p m c cc nL s args Ts own) (hM : MetT l y ws rm Pc Qc mc ms free) (cw : CallB R s args own index y bytes maxL ret ws rm mc ms n ∧ (Cond.static y).before args s = true) (hp : PreS s H Pc As)
    (hg : g.method = m) (hn : As.length = n) (hsize : g.locals.size = nL) (hstack : g.stack = As.reverse ++ rest) (hW : 2 * g.monitorRoom + (rest.map fun v => v.category).sum ≤ 8) (hdg : decode cc g.pc = .ok (.invokestatic index, 3)) (hf : cells + mc ≤ R.cells ∧ slots + ms ≤ R.slots)
    (hthr : ∀ st o t, Qc As.toArray st o t → ∃ x, o = .threw x) {T : State} (hT : T.heap = H) (X : Stand p l e R s m args below meth c T locs cells slots) :
    ∃ (x : Addr) (st₀ t T' : State) (L : List Loc), st₀.heap = H ∧ Stand p l e R s m args below meth c T' (locs ++ L) (cells + mc) (slots + ms) ∧ (∀ q ∈ L, free q.base) ∧ T'.heap = t.heap ∧ Qc As.toArray st₀ (.threw x) t ∧
      ∀ target, Steps p.tables e below ((T'.setTop { g with stack := rest }).pushFrame (.throwing x)) target → Steps p.tables e below (T.setTop g) target := by
  obtain ⟨cb, hstt⟩ := cw
  obtain ⟨-, -, -, -, -, -, hcode, hini, hy, hlen, hl⟩ := id cb
  obtain ⟨hx, hb, hml, ho, -⟩ := S
  obtain ⟨mk, hnamed⟩ := Cond.code_named hcode
  obtain ⟨methM, cM, hmethM, -, -, -, -, -, -, hsigM⟩ := Cond.code_spec hnamed hcode
  have hstatic : methM.isStatic = true := Cond.static_spec hnamed hmethM hstt
  obtain ⟨kP, hkP, -⟩ := className_of_methodNamed hnamed
  have hinitP : kP.init = .initialized := Cond.initialized_spec (findClass_of_methodNamed hnamed) hkP hini
  obtain ⟨vm₁, X₁, hstep₁⟩ := X.invokestatic hx ho hl hnamed hmethM hstatic hkP hinitP hy (g := g) hg (argsL := As) (rest := rest) (hn.trans (hlen _ hsigM)) hstack (by rw [hb]; exact hdg)
  obtain ⟨x, st₀, t, T', L, h1, X', hL, h2, hq, hsteps⟩ := xthr_core X₁ hM hp.1 cb (g := { g with stack := rest }) hg (hsize.trans hml.symm) (ig := .invokestatic index) (by rw [hb]; exact hdg) hW (X₁.named hnamed) (hp.2 (T.setVm vm₁) hT X₁.warmed) hf hthr
  exact ⟨x, st₀, t, T', L, h1.trans hT, X', hL, h2, hq, fun target h => hstep₁ _ fun acts => by rw [doInvoke_state]; exact hsteps.trans h⟩
theorem xthrV (S : CallFix p m c cc nL s args Ts own) (hM : MetT l y ws rm Pc Qc mc ms free) (cw : CallW R s args own C index y bytes maxL ret ws rm mc ms n) (hp : PreV s H C b Pc As)
    (hg : g.method = m) (hn : As.length = n) (hsize : g.locals.size = nL) (hstack : g.stack = As.reverse ++ .ref b :: rest) (hW : 2 * g.monitorRoom + (rest.map fun v => v.category).sum ≤ 8) (hdg : decode cc g.pc = .ok (.invokevirtual index, 3)) (hf : cells + mc ≤ R.cells ∧ slots + ms ≤ R.slots)
    (hthr : ∀ st o t, Qc (Value.ref b :: As).toArray st o t → ∃ x, o = .threw x) {T : State} (hT : T.heap = H) (X : Stand p l e R s m args below meth c T locs cells slots) :
    ∃ (x : Addr) (st₀ t T' : State) (L : List Loc), st₀.heap = H ∧ Stand p l e R s m args below meth c T' (locs ++ L) (cells + mc) (slots + ms) ∧ (∀ q ∈ L, free q.base) ∧ T'.heap = t.heap ∧ Qc (Value.ref b :: As).toArray st₀ (.threw x) t ∧
      ∀ target, Steps p.tables e below ((T'.setTop { g with stack := rest }).pushFrame (.throwing x)) target → Steps p.tables e below (T.setTop g) target := by
  obtain ⟨cb, hin, hse⟩ := cw
  obtain ⟨-, -, -, -, -, -, hcode, hini, hy, hlen, hl⟩ := id cb
  obtain ⟨hx, hb, hml, ho, -⟩ := S
  obtain ⟨hbl, ⟨cellB, hcB, hoB, hclB⟩, hPc⟩ := hp
  obtain ⟨mk, methM, hnamed, hmethM, hstM, habM⟩ := Cond.instanceMethod_spec hin
  obtain ⟨methM', cM, hmethM', -, -, -, -, -, -, hsigM⟩ := Cond.code_spec hnamed hcode
  cases hmethM.symm.trans hmethM'
  obtain ⟨c2, r2, m2, q1, q2, q3, q4, kP, hkP, hkPi⟩ := Cond.selects_spec hse
  cases hclB.symm.trans q1
  cases (State.methodFound?_of_named hnamed hy).symm.trans q2
  cases hnamed.symm.trans q3
  have hselP : selectMethod e.platform s.vm cellB.cls mk = .method mk := by rw [Launch.admits_selectMethod X.admits]; exact q4
  obtain ⟨vm₁, X₁, hstep₁⟩ := X.invokevirtual hx ho hl hnamed hmethM hstM hkP hkPi hy (a := b) (cell := cellB) (by rw [hT]; exact hcB)
    (fun z h => by rw [h] at hoB; cases hoB) hselP hmethM habM hkP hkPi (g := g) hg (argsL := As) (rest := rest) (hn.trans (hlen _ hsigM)) hstack (by rw [hb]; exact hdg)
  obtain ⟨x, st₀, t, T', L, h1, X', hL, h2, hq, hsteps⟩ := xthr_core X₁ hM hbl cb (g := { g with stack := rest }) hg (hsize.trans hml.symm) (ig := .invokevirtual index) (by rw [hb]; exact hdg) hW (X₁.named hnamed) (hPc (T.setVm vm₁) hT X₁.warmed) hf hthr
  exact ⟨x, st₀, t, T', L, h1.trans hT, X', hL, h2, hq, fun target h => hstep₁ _ fun acts => by rw [doInvoke_state]; exact hsteps.trans h⟩
end XC
section XD
variable {z : xzs} {p : Program} {l : Launch} {e : Env} {R : Room} {s : State} {m : MethodId} {args : Array Value} {below : List Frame} {meth : Method} {c : Code} {H : Heap} {locs : List Loc} {Q : State → Prop} {cc : ByteArray} {pc : Nat} {ls : Array Slot} {cells slots : Nat} {D : va_G} {dA : Nat → ClassId} {h : xH} {r : xR}
theorem x_hsize (hA : xAt D dA s locs h H) (hb1 : h.1 ≤ s.heap.size) (hb2 : s.heap.size ≤ xn h) (hz : H.size ≤ s.heap.size + (xn h - s.heap.size)) : H.size = xn h := by
  refine Nat.le_antisymm (by omega) ?_
  by_cases hl : h.2.2.length = 0
  · have h1 : xn h = h.1 := by unfold xn; omega
    have h2 := hA.2.1
    omega
  · have hlt : h.2.2.length - 1 < h.2.2.length := by omega
    have h1 := (hA.1 (h.2.2.length - 1) (h.1 + (h.2.2.length - 1), xe dA (h.2.2[h.2.2.length - 1])) (by rw [xwsA_get, List.getElem?_eq_getElem hlt]; rfl)).lt
    have h1 : h.1 + (h.2.2.length - 1) < H.size := h1
    unfold xn
    omega
theorem x_pre {as : List Value} (hK : xk z D dA h.1 s) (hA : xAt D dA s locs h H) (hb1 : h.1 ≤ s.heap.size) (hs : H.size = xn h) : ∀ U : State, U.heap = H → s.WarmedH U.vm → xPc z D dA as h as.toArray U := by
  intro U hU hW
  refine ⟨rfl, ⟨by rw [hU]; exact hs, by rw [hU]; exact hA.1⟩, hK.moved hW.alike (fun q hq => ?_)⟩
  rw [hU]
  exact hA.2.2.1 q (Nat.lt_of_lt_of_le hq hb1) (Nat.not_le.mpr hq)
/-- behind a call that came back -/
theorem x_back {a : Array Value} {st0 t : List Value} {v : Option Value} {mc ms : Nat} (run : va_Run p l e R s m args below meth c H locs cells slots mc ms (F0 m pc ls st0) t (xQc D dA h r a) (fun q => h.1 ≤ q)) (hr : r.1 = .inl v) (hb1 : h.1 ≤ s.heap.size) (hm : r.2.1 = h.1) (hA : xAt D dA s locs h H)
    (k : ∀ H' locs', xAt D dA s locs' r.2 H' → W p l e R s m args below meth c H' locs' (cells + mc) (slots + ms) Q (F0 m (pc + 3) ls (v.toList ++ t))) : W p l e R s m args below meth c H locs cells slots Q (F0 m pc ls st0) := by
  intro T hT X
  obtain ⟨v', st₀, t', T', L, h0, X', hL, e1, e2, ⟨hq, hP, hF⟩, st⟩ := run T hT X
  rw [hr] at hq
  cases hq
  have hA' : xAt D dA s (locs ++ L) r.2 T'.heap := by
    refine ⟨by rw [e1]; exact hP, ?_, ?_, ?_⟩
    · rw [e1]
      exact Nat.le_trans hA.2.1 (by rw [← h0]; exact hF.1)
    · intro q h1 h2
      rw [hm] at h2
      rw [e1, hF.2 q (by rw [h0]; exact Nat.lt_of_lt_of_le h1 hA.2.1) h2, h0]
      exact hA.2.2.1 q h1 h2
    · intro q hq
      rw [hm]
      rcases List.mem_append.mp hq with z | z
      · exact hA.2.2.2 q z
      · exact hL q z
  obtain ⟨t2, a1, b1⟩ := k T'.heap (locs ++ L) hA' T' rfl X'
  exact ⟨t2, st t2 a1, b1⟩
def xZ (below : List Frame) (args : Array Value) (s : State) (D : va_G) (dA : Nat → ClassId) (h0 : xH) (r : xR) : State → Prop := match r.1 with
  | .inl _ => MQ below (xQc D dA h0 r) args s (xn r.2 - s.heap.size) (r.2.2.1 - h0.2.1) (fun q => h0.1 ≤ q)
  | .inr _ => MQT below (xQc D dA h0 r) args s (xn r.2 - s.heap.size) (r.2.2.1 - h0.2.1) (fun q => h0.1 ≤ q)
/-- the method's own end by a throw -/
theorem x_thrown {h0 : xH} {x : Addr} {T : State} {g : JFrame} (X : Stand p l e R s m args below meth c T locs (xn r.2 - s.heap.size) (r.2.2.1 - h0.2.1)) (hr : r.1 = .inr x) (hg : g.method = m) (hlocked : g.locked = none) (hentered : g.entered = []) (hout : ∀ x ∈ c.exceptionTable.toList, covers x g.pc = false) (hlocks : meth.locks = false)
    (hm : r.2.1 = h0.1) (hA : xAt D dA s locs r.2 T.heap) : ∃ t, Steps p.tables e below ((T.setTop g).pushFrame (.throwing x)) t ∧ xZ below args s D dA h0 r t := by
  obtain ⟨h1, h2, h3, h4, h5⟩ := X.leaveThrown x hg hlocked hentered hout hlocks
  refine ⟨_, h1, ?_⟩
  unfold xZ
  rw [hr]
  have hL : ∀ q ∈ locs, h0.1 ≤ q.base := fun q hq => by rw [← hm]; exact hA.2.2.2 q hq
  refine ⟨.threw x, h2, h3, ⟨?_, hA.1, hA.2.1, fun q q1 q2 => ?_⟩, locs, ⟨h4, h5⟩, hL⟩
  · show xOc r.1 _
    rw [hr]
    rfl
  · exact hA.2.2.1 q q1 (by rw [hm]; exact q2)
end XD
