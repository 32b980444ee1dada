section XTW
variable {z : xzs} {p : Program} {l : Launch} {e : Env} {R : Room} {s : State} {m : MethodId} {args : Array Value} {below : List Frame} {meth : Method} {c : Code} {H : Heap} {locs : List Loc} {cells slots : Nat} {Q : State → Prop} {cc : ByteArray} {tS idx ic : Nat} {ls : Array Slot} {own cls : String} {A : Nat → Prop}
set_option maxHeartbeats 2000000 in
theorem x_throw {st : List Value} (hexec : p.tables.exec = Jvm.exec) (htr : l.stackTraces = false) (hb : c.code = cc) (hml : c.maxLocals = ls.size) (hown : s.vm.findClass own = some m.cls) (hts : ∀ w ∈ xT, w.before args s = true) (hls : xls s) (hZ1 : va_Z "java/lang/Throwable" "UNASSIGNED_STACK" "[Ljava/lang/StackTraceElement;" (va_rf z.2.1) A s s.heap) (hZ2 : va_Z "java/lang/Throwable" "SUPPRESSED_SENTINEL" "Ljava/util/List;" (va_rf z.2.2.1) A s s.heap)
    (hc : xthC cls) (w1 : Cond.classLink own idx cls ∈ xT) (w2 : Cond.methodLink own ic (Bundle.init0 cls) ∈ xT) (d0 : decode cc tS = .ok (.new idx, 3)) (d3 : decode cc (tS + 3) = .ok (.dup, 1)) (d4 : decode cc (tS + 4) = .ok (.invokespecial ic, 3)) (d7 : decode cc (tS + 7) = .ok (.athrow, 1)) (hout : ∀ x ∈ c.exceptionTable.toList, covers x (tS + 7) = false) (hlocks : meth.locks = false)
    (hcells : cells + 1 ≤ R.cells) (hslots : slots + 6 ≤ R.slots) (hst : (st.map fun v => v.category).sum ≤ 8) (hRf : 6 < R.frames) (hRl : 100 ≤ R.locals) (hS : va_S A s.heap H locs)
    (kk : ∀ (U : State) (ce : Cell) (L : List Loc), U.status = .running → Ended U below (.threw H.size) → s.WarmedH U.vm → s.sameButNew ({ U with vm := s.vm } : State) (locs ++ L) (cells + 1) (slots + 6) → (∀ q ∈ L, q.base = H.size) → (∀ q, q < H.size → U.heap[q]? = H[q]?) → U.heap[H.size]? = some ce → U.heap.size = H.size + 1 → s.vm.findClass cls = some ce.cls → ce.vm = .none →
      (∀ i, SlotIs s Bundle.tN "backtrace" "Ljava/lang/Object;" i → ce.slots[i]? = some .null) → (∀ i, SlotIs s Bundle.tN "cause" "Ljava/lang/Throwable;" i → ce.slots[i]? = some (.ref H.size)) → (∀ i, SlotIs s Bundle.tN "depth" "I" i → ce.slots[i]? = some (.int 0)) → (∀ i, SlotIs s Bundle.tN "detailMessage" "Ljava/lang/String;" i → ce.slots[i]? = some .null) → (∀ i, SlotIs s Bundle.tN "stackTrace" Bundle.steD i → ce.slots[i]? = some (va_rf z.2.1)) → (∀ i, SlotIs s Bundle.tN "suppressedExceptions" Bundle.listD i → ce.slots[i]? = some (va_rf z.2.2.1)) → Q U) :
    W p l e R s m args below meth c H locs cells slots Q (F0 m tS ls st) := by
  have wi : ∀ a ∈ xthW cls, a.before args s = true := fun a ha => hts a (hc.1 a ha)
  obtain ⟨cX, kX, hfX, hkX, hord, -, -, hn6⟩ := Cond.instantiable_spec (wi (.instantiable cls 6) (by simp [xthW]))
  refine W.newcK hexec hb hown (hts _ w1) (wi (.instantiable cls 6) (by simp [xthW])) (wi (.initialized cls) (by simp [xthW])) rfl d0 hcells hslots hfX rfl fun H1 kC hkC e1 z1 o1 => ?_
  cases hkX.symm.trans hkC
  refine lv_dup (va := .ref H.size) hexec hb d3 rfl ?_
  intro T hT X
  have hpl : e.platform.magicAccessors = ({} : Platform).magicAccessors := by rw [X.admits.platform]
  have howns : e.platform.frameOwnsMonitors = true := by rw [X.admits.platform]
  have hfin : e.platform.finalization = false := by rw [X.admits.platform]
  have htr' : e.platform.stackTraces = false := by rw [X.admits.platform]; exact htr
  obtain ⟨Th, Z, L, LZ, Y⟩ := ThrowableC.of_atoms (args := args) howns hfin hpl (xthr_atoms hts hls)
  obtain ⟨P1, Ps, hlen, L1, hL, hP1m, hlink1, hlink⟩ := Bundle.chain0 (args := args) hpl Y.init0 xrte cls hc.2.2 (by decide) (xth_chain hts hc)
  have hlen : Ps.length = 2 := hlen
  have hfound : s.vm.findClass cls = some P1.m.cls := findClass_of_methodNamed hP1m
  cases Option.some.inj (hfX.symm.trans hfound)
  have hsel0 : selectMethod e.platform s.vm P1.m.cls Th.fill0 = .method Th.fill0 := by
    obtain ⟨c2, r2, m2, q1, q2, q3, q4, -⟩ := Cond.selects_spec (wi (.selects cls Bundle.tFill0 Bundle.tFill0) (by simp [xthW]))
    cases Option.some.inj (q1.symm.trans hfound)
    cases Option.some.inj (q2.symm.trans (State.methodFound?_of_named Y.fill0 (by decide)))
    cases Option.some.inj (q3.symm.trans Y.fill0)
    rw [Launch.admits_selectMethod X.admits]; exact q4
  have hselF : selectMethod e.platform s.vm P1.m.cls Th.fill = .method Th.fill := by
    obtain ⟨c2, r2, m2, q1, q2, q3, q4, -⟩ := Cond.selects_spec (wi (.selects cls Bundle.tFill Bundle.tFill) (by simp [xthW]))
    cases Option.some.inj (q1.symm.trans hfound)
    cases Option.some.inj (q2.symm.trans (State.methodFound?_of_named Y.fill (by decide)))
    cases Option.some.inj (q3.symm.trans Y.fill)
    rw [Launch.admits_selectMethod X.admits]; exact q4
  -- the statics
  have hstat : ∀ {n d : String} {v : Value} {i : Nat} {f : Field}, s.fieldFound? Bundle.tN n d = some (Th.cT, Th.kT, i, f) → va_Z "java/lang/Throwable" n d v A s s.heap → ∃ cellS, T.heap[Th.aS]? = some cellS ∧ cellS.vm.isStatics = true ∧ cellS.slots[f.slot]? = some v ∧ Th.aS < s.heap.size := by
    intro n d v i f hf hZ
    obtain ⟨cf, kf, fi, f', a, cell, g1, g2, g3, g4, g5, g6, g7, g8⟩ := hZ
    cases Option.some.inj (g1.symm.trans hf)
    have ha : a = Th.aS := Option.some.inj (g4.symm.trans L.statics)
    subst ha
    have hlt := (Array.getElem?_eq_some_iff.mp g5).1
    refine ⟨cell, ?_, g6, g7, hlt⟩
    rw [hT, o1 _ (Nat.lt_of_lt_of_le hlt hS.1), hS.2.1 _ hlt g8]
    exact g5
  obtain ⟨cellS, hcellS, hiss, hvU, hltS⟩ := hstat Y.unassigned hZ1
  obtain ⟨cellS', hcellS', -, hvSen, -⟩ := hstat Y.sentinel hZ2
  cases hcellS.symm.trans hcellS'
  have hknownS : cellS.vm ≠ .unknown := by
    intro hu
    rw [hu] at hiss
    cases hiss
  have hneS : Th.aS ≠ H.size := Nat.ne_of_lt (Nat.lt_of_lt_of_le hltS hS.1)
  have isr : ∀ r : Option Nat, (va_rf r).isRef = true := fun r => by cases r <;> rfl
  let u0 : RefV := ⟨va_rf z.2.1, isr _⟩
  let sen : RefV := ⟨va_rf z.2.2.1, isr _⟩
  obtain ⟨d1, d2, d3', d4', d5, d6, d198, dlb⟩ := xdec_in
  obtain ⟨ci198, i198, fB, hk198, hg198, ha198, hsB, -, hnB, htB, hffB⟩ := Cond.ownField (t := .object "java/lang/Object") Y.found L.cls (by decide +kernel) (hts _ d198) (hts _ dlb) e.platform hpl
  obtain ⟨iM, hffM⟩ := Y.msg
  obtain ⟨tyC, dC, hdC, hdnC⟩ := Cond.laysAt hfound hkX Y.cause (wi (.lays cls Bundle.tN "cause" "Ljava/lang/Throwable;") (by simp [xthW]))
  obtain ⟨tyS, dS, hdS, hdnS⟩ := Cond.laysAt hfound hkX Y.stack (wi (.lays cls Bundle.tN "stackTrace" Bundle.steD) (by simp [xthW]))
  obtain ⟨tyP, dP, hdP, hdnP⟩ := Cond.laysAt hfound hkX Y.supp (wi (.lays cls Bundle.tN "suppressedExceptions" Bundle.listD) (by simp [xthW]))
  obtain ⟨tyM, dM, hdM, hdnM⟩ := Cond.laysAt hfound hkX hffM (wi (.lays cls Bundle.tN "detailMessage" "Ljava/lang/String;") (by simp [xthW]))
  obtain ⟨tyB, dB, hdB, hdnB⟩ := Cond.laysAt hfound hkX hffB (wi (.lays cls Bundle.tN "backtrace" "Ljava/lang/Object;") (by simp [xthW]))
  have hnM : Th.fMsg.name = "detailMessage" := (State.fieldFound?_type hffM (t := .object "java/lang/String") (by decide +kernel)).1
  have bC := Cond.laysApart hdB hdC hdnB hdnC (by rw [hnB, Y.causeName]; decide)
  have bS := Cond.laysApart hdB hdS hdnB hdnS (by rw [hnB, Y.stackName]; decide)
  have bP := Cond.laysApart hdB hdP hdnB hdnP (by rw [hnB, Y.suppName]; decide)
  have nCS := Cond.laysApart hdC hdS hdnC hdnS (by rw [Y.causeName, Y.stackName]; decide)
  have nCP := Cond.laysApart hdC hdP hdnC hdnP (by rw [Y.causeName, Y.suppName]; decide)
  have nCM := Cond.laysApart hdC hdM hdnC hdnM (by rw [Y.causeName, hnM]; decide)
  have nSP := Cond.laysApart hdS hdP hdnS hdnP (by rw [Y.stackName, Y.suppName]; decide)
  have nSM := Cond.laysApart hdS hdM hdnS hdnM (by rw [Y.stackName, hnM]; decide)
  have nPM := Cond.laysApart hdP hdM hdnP hdnM (by rw [Y.suppName, hnM]; decide)
  have lC : Th.fCause.slot < kX.instanceTypes.size := (Array.getElem?_eq_some_iff.mp tyC).1
  have lS : Th.fStack.slot < kX.instanceTypes.size := (Array.getElem?_eq_some_iff.mp tyS).1
  have lP : Th.fSupp.slot < kX.instanceTypes.size := (Array.getElem?_eq_some_iff.mp tyP).1
  have hcell : T.heap[H.size]? = some (freshCell P1.m.cls kX) := by rw [hT]; exact e1
  have hskip : SkipFacts Th e.platform s (fun u => u) u0 ((preparedCellV Th.toThrowableT (freshCell P1.m.cls kX) H.size u0 sen).withEntry T.cur) :=
    ⟨{ ci198 := ci198, i198 := i198, fBack := fB }, ⟨hk198, hg198, ha198, hsB⟩, by
      have := fresh_default (c := P1.m.cls) tyB
      rw [htB] at this
      simpa [preparedCellV, Cell.setSlot, Cell.withEntry, Array.getElem?_setIfInBounds, bC, bS, bP, bC.symm, bS.symm, bP.symm, defaultValue] using this, fun _ _ => rfl⟩
  obtain ⟨tm, methC, cdC, kC', vm₁, hnC, -, -, -, -, -, -, -, hW₁, st1⟩ := Steps.initCold (tb := p.tables) (e := e) (below := below) (s := s) (U := T) X.here hexec X.warmed hpl hown (t := Bundle.init0 cls) rfl rfl (Bundle.fit_spec hc.2.2).2
    (hts _ w2) (wi (.instanceMethod (Bundle.init0 cls)) (by simp [xthW])) (bytes := Bundle.five) (maxL := 1) (wi (.code (Bundle.init0 cls) Bundle.five 1 none) (by simp [xthW]))
    (f := F0 m (tS + 4) ls (.ref H.size :: .ref H.size :: st)) rfl (a := H.size) (rest := .ref H.size :: st) rfl (by rw [hb]; exact d4)
  cases Option.some.inj (hnC.symm.trans hP1m)
  have X₁ := X.noted hW₁
  obtain ⟨vm₂, X₂, st2⟩ := X₁.ctorPlainOffV hexec (g := F0 m (tS + 4) ls (.ref H.size :: st)) rfl (by rw [hml]) Th L Z LZ (P1 :: Ps)
    (fun P hP => by rcases List.mem_cons.mp hP with rfl | hP; exact L1; exact hL P hP) ⟨hlink1, hlink⟩ (u0 := u0) (sen := sen) (self := H.size) (cell := freshCell P1.m.cls kX) (cellS := cellS)
    hcell (fun _ => by simp) (by simp) rfl rfl hsel0 hselF hcellS hneS hknownS hvU hvSen
    (Takes.of_laid hkX hord tyC (by rw [Y.causeType]; rfl)) (Takes.of_laid hkX hord tyS (by rw [Y.stackType]; exact fits_refV_array _ u0)) (Takes.of_laid hkX hord tyP (by rw [Y.suppType]; exact fits_refV_object _ sen)) Y.objLocals hskip htr' [] (ig := .invokespecial ic) (len := 3) (by rw [hb]; exact d4)
    (by show Ps.length + 1 + 2 < R.frames; omega) (by
      show 2 * 0 + (1 + (st.map fun v => v.category).sum) + (13 * (Ps.length + 1) + 41) ≤ R.locals
      omega)
  obtain ⟨hwalk, hrun, hended, hWU, hsame⟩ := X₂.athrowLeaves hexec (g := F0 m (tS + 7) ls (.ref H.size :: st)) rfl rfl rfl hout (a := H.size) (rest := st) rfl (by rw [hb]; exact d7) hlocks
  have hlt : H.size < ((T.setVm vm₁).setVm vm₂).heap.size := (Array.getElem?_eq_some_iff.mp hcell).1
  have hU := heapAt_setCell_self (s := (T.setVm vm₁).setVm vm₂) ((preparedCellV Th.toThrowableT (freshCell P1.m.cls kX) H.size u0 sen).setSlot Th.fStack.slot u0.v) hlt
  refine ⟨_, st1 _ (fun acts => ?_), kk _ _ _ hrun hended hWU hsame ?_ ?_ hU ?_ hfound rfl ?_ ?_ ?_ ?_ ?_ ?_⟩
  · rw [doInvoke_state]
    exact st2 _ hwalk
  · intro q hq
    simp only [List.mem_cons, List.not_mem_nil, or_false] at hq
    rcases hq with rfl | rfl | rfl | rfl <;> rfl
  · intro q hq
    show (T.heap.setIfInBounds H.size _)[q]? = _
    rw [Array.getElem?_setIfInBounds_ne (by omega), hT, o1 q hq]
  · show (T.heap.setIfInBounds H.size _).size = _
    rw [Array.size_setIfInBounds, hT, z1]
  · rintro i ⟨cf, kf, fi, fd, hf, rfl⟩
    cases Option.some.inj (hf.symm.trans hffB)
    have := fresh_default (c := P1.m.cls) tyB
    rw [htB] at this
    simpa [preparedCellV, Cell.setSlot, Array.getElem?_setIfInBounds, bC, bS, bP, bC.symm, bS.symm, bP.symm, defaultValue] using this
  · rintro i ⟨cf, kf, fi, fd, hf, rfl⟩
    cases Option.some.inj (hf.symm.trans Y.cause)
    simp [preparedCellV, Cell.setSlot, nCS.symm, nCP.symm, lC]
  · rintro i ⟨cf, kf, fi, fd, hf, rfl⟩
    obtain ⟨tyD, dD, hdD, hdnD⟩ := Cond.laysAt hfound hkX hf (wi (.lays cls Bundle.tN "depth" "I") (by simp [xthW]))
    have hnD := State.fieldFound?_type hf (t := .int) (by decide +kernel)
    have m1 := Cond.laysApart hdD hdC hdnD hdnC (by rw [hnD.1, Y.causeName]; decide)
    have m2 := Cond.laysApart hdD hdS hdnD hdnS (by rw [hnD.1, Y.stackName]; decide)
    have m3 := Cond.laysApart hdD hdP hdnD hdnP (by rw [hnD.1, Y.suppName]; decide)
    have := fresh_default (c := P1.m.cls) tyD
    rw [hnD.2] at this
    simpa [preparedCellV, Cell.setSlot, Array.getElem?_setIfInBounds, m1, m2, m3, m1.symm, m2.symm, m3.symm, defaultValue] using this
  · rintro i ⟨cf, kf, fi, fd, hf, rfl⟩
    cases Option.some.inj (hf.symm.trans hffM)
    have := fresh_default (c := P1.m.cls) tyM
    rw [Y.msgType] at this
    simpa [preparedCellV, Cell.setSlot, Array.getElem?_setIfInBounds, nCM, nSM, nPM, nCM.symm, nSM.symm, nPM.symm, defaultValue] using this
  · rintro i ⟨cf, kf, fi, fd, hf, rfl⟩
    cases Option.some.inj (hf.symm.trans Y.stack)
    simp [preparedCellV, Cell.setSlot, lS, u0]
  · rintro i ⟨cf, kf, fi, fd, hf, rfl⟩
    cases Option.some.inj (hf.symm.trans Y.supp)
    simp [preparedCellV, Cell.setSlot, nSP, lP, sen]
end XTW
