/-! A THROW: new, dup, the constructor, athrow, in one (the launch makes no traces). -/
abbrev xrte : List String := ["java/lang/RuntimeException", "java/lang/Exception"]
theorem xdeclares {args : Array Value} {s : State} {y : MethodName} {bytes : ByteArray} {maxL : Nat} {ret : Option FieldType} (h1 : (Cond.instanceMethod y).before args s = true) (h2 : (Cond.code y bytes maxL ret).before args s = true) : (Cond.declares y).before args s = true := by
  obtain ⟨m, meth, hn, hm, hst, -⟩ := Cond.instanceMethod_spec h1
  obtain ⟨meth', c, hm', -, -, -, -, -, -, hsig⟩ := Cond.code_spec hn h2
  cases hm.symm.trans hm'
  simp [Cond.before, Cond.holds, Cond.value, hn, hm, hst, hsig]
theorem xthr_in : ∀ a ∈ Bundle.throwableAtoms, a ∈ xT ∨ a = Cond.laysStatic Bundle.tN "UNASSIGNED_STACK" Bundle.steD ∨ a = Cond.laysStatic Bundle.tN "SUPPRESSED_SENTINEL" Bundle.listD := by decide +kernel
theorem xthr_atoms {args : Array Value} {s : State} (hts : ∀ w ∈ xT, w.before args s = true) (hls : xls s) : ∀ a ∈ Bundle.throwableAtoms, a.before args s = true := by
  intro a ha
  rcases xthr_in a ha with h | rfl | rfl
  · exact hts a h
  · exact hls.1
  · exact hls.2
theorem xdec_in : Cond.instanceMethod (Bundle.init0 "java/lang/RuntimeException") ∈ xT ∧ Cond.code (Bundle.init0 "java/lang/RuntimeException") Bundle.five 1 none ∈ xT ∧ Cond.instanceMethod (Bundle.init0 "java/lang/Exception") ∈ xT ∧ Cond.code (Bundle.init0 "java/lang/Exception") Bundle.five 1 none ∈ xT ∧ Cond.instanceMethod (Bundle.init0 Bundle.tN) ∈ xT ∧ Cond.code (Bundle.init0 Bundle.tN) LibCode.Throwable.Init0.code 1 none ∈ xT ∧
  Cond.fieldLink Bundle.tN 198 Bundle.tN "backtrace" "Ljava/lang/Object;" ∈ xT ∧ Cond.lays Bundle.tN Bundle.tN "backtrace" "Ljava/lang/Object;" ∈ xT := by decide +kernel
/-- the words that a throw of a class's object asks -/
def xthW (cls : String) : List Cond := [.instantiable cls 6, .initialized cls, .selects cls Bundle.tFill0 Bundle.tFill0, .selects cls Bundle.tFill Bundle.tFill, .lays cls Bundle.tN "cause" "Ljava/lang/Throwable;", .lays cls Bundle.tN "stackTrace" Bundle.steD, .lays cls Bundle.tN "suppressedExceptions" Bundle.listD, .lays cls Bundle.tN "detailMessage" "Ljava/lang/String;", .lays cls Bundle.tN "backtrace" "Ljava/lang/Object;", .lays cls Bundle.tN "depth" "I", .instanceMethod (Bundle.init0 cls), .code (Bundle.init0 cls) Bundle.five 1 none]
def xthC (cls : String) : Prop := (∀ a ∈ xthW cls, a ∈ xT) ∧ (∀ a ∈ Bundle.chain0Atoms cls xrte, a ∈ xT ∨ a = Cond.declares (Bundle.init0 "java/lang/RuntimeException") ∨ a = Cond.declares (Bundle.init0 "java/lang/Exception") ∨ a = Cond.declares (Bundle.init0 Bundle.tN)) ∧ Bundle.fit cls = true
theorem xthC_arg : xthC "java/lang/IllegalArgumentException" := by
  unfold xthC
  decide +kernel
theorem xthC_elem : xthC "java/util/NoSuchElementException" := by
  unfold xthC
  decide +kernel
theorem xthC_unsup : xthC "java/lang/UnsupportedOperationException" := by
  unfold xthC
  decide +kernel
theorem xthC_state : xthC "java/lang/IllegalStateException" := by
  unfold xthC
  decide +kernel
theorem xth_chain {args : Array Value} {s : State} {cls : String} (hts : ∀ w ∈ xT, w.before args s = true) (hc : xthC cls) : ∀ a ∈ Bundle.chain0Atoms cls xrte, a.before args s = true := by
  intro a ha
  obtain ⟨d1, d2, d3, d4, d5, d6, -, -⟩ := xdec_in
  rcases hc.2.1 a ha with h | rfl | rfl | rfl
  · exact hts a h
  · exact xdeclares (hts _ d1) (hts _ d2)
  · exact xdeclares (hts _ d3) (hts _ d4)
  · exact xdeclares (hts _ d5) (hts _ d6)
