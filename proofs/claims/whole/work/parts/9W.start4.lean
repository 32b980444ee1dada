/-! THE LAW'S BEGINNING: what the Statement gives of the start. -/
section LE
abbrev sEd : Term := .static "java/util/ArrayList" "DEFAULTCAPACITY_EMPTY_ELEMENTDATA" "[Ljava/lang/Object;"
theorem xnc_of {args : Array Value} {s : State} {A B : String} (h : (Cond.not (.castable A B)).before args s = true) : ∃ ca cb, s.vm.findClass A = some ca ∧ s.vm.findClass B = some cb ∧ s.vm.assignable ca cb = false := by
  cases hA : s.vm.findClass A with
  | none => simp [Cond.before, Cond.holds, Cond.value, hA] at h
  | some ca =>
    cases hB : s.vm.findClass B with
    | none => simp [Cond.before, Cond.holds, Cond.value, hA, hB] at h
    | some cb => exact ⟨ca, cb, rfl, rfl, by simpa [Cond.before, Cond.holds, Cond.value, hA, hB] using h⟩
theorem xNC_of {args : Array Value} {s : State} (h : ∀ i j, i < 4 → j < 4 → i ≠ j → (Cond.not (.castable (xcn i) (xcn j))).before args s = true) : xNC s := by
  intro i j hi hj
  by_cases e : i = j
  · subst e
    obtain ⟨k, hk, hne⟩ : ∃ k, k < 4 ∧ i ≠ k := by
      by_cases w : i = 0
      · exact ⟨1, by decide, by omega⟩
      · exact ⟨0, by decide, w⟩
    obtain ⟨ca, cb, h1, -, -⟩ := xnc_of (h i k hi hk hne)
    exact ⟨ca, ca, h1, h1, by rw [va_asg]; simp⟩
  · obtain ⟨ca, cb, h1, h2, h3⟩ := xnc_of (h i j hi hj e)
    exact ⟨ca, cb, h1, h2, by rw [h3]; simp [e]⟩
theorem xZq_of {C n d : String} {A : Nat → Prop} {s : State} (h : va_Zq C n d A s s.heap) : ∃ r : Option Nat, va_Z C n d (va_rf r) A s s.heap := by
  rcases h with h | ⟨t, h⟩
  · exact ⟨none, h⟩
  · exact ⟨some t, h⟩
theorem l_env {p : Program} {s : State} {m : MethodId} {c : Code} {b L : Nat} {xs : Nat → Int32} (hx : p.tables.exec = Jvm.exec) (hb : c.code = code) (hml : c.maxLocals = 7) (hown : s.vm.findClass "CapKernelLaw" = some m.cls) (hts : ∀ w ∈ lw_tbl, w.before #[Value.ref b] s = true) (hX : va_X b L xs s s.heap) (hbl : b < s.heap.size) (hgv : (Jvm.Cond.and given_1 narrow_1).before #[Value.ref b] s = true) :
    ∃ z D dA, lFix z p s m c D dA b L xs ∧ z.1 < s.heap.size := by
  have hg := flat_of_before _ hgv
  have htx : ∀ w ∈ xT, w.before #[Value.ref b] s = true := fun w hw => hts w (List.mem_filter.mp hw).1
  have hA : ∀ a : Nat, a < s.heap.size → ¬ (fun q => s.heap.size ≤ q) a := fun a h1 h2 => Nat.not_le.mpr h1 h2
  obtain ⟨D, hK⟩ := xknown htx
  have o2 := hts (.arrayOver (.object "CapKernel$Capability")) (by decide +kernel)
  have o3 := hts (.arrayOver (.object "CapKernel$Client")) (by decide +kernel)
  have o4 := hts (.arrayOver (.object "java/lang/Object")) (by decide +kernel)
  obtain ⟨dA, hdA⟩ := xarrs (hts (.arrayClass .int) (by decide +kernel)) (hts (.arrayClass .boolean) (by decide +kernel)) o2 o3 o4 (hts (.arrayClass .long) (by decide +kernel))
  -- the list's empty array
  have hlen : (Term.length sEd).eval #[Value.ref b] s none [] s = some (.int (Int32.ofNat 0)) := va_eqt (hg (.eq (.length sEd) (.int 0)) (by decide +kernel))
  obtain ⟨t, ht, hT⟩ := va_Tof (N := 0) (f := fun _ => .null) (by decide) (hg (.arrayOf sEd (.object "java/lang/Object")) (by decide +kernel)) hlen (fun j hj => absurd hj (Nat.not_lt_zero j)) hA
  have hZ := va_Zref (hts (.laysStatic "java/util/ArrayList" "DEFAULTCAPACITY_EMPTY_ELEMENTDATA" "[Ljava/lang/Object;") (by decide +kernel)) (hts (.initialized "java/util/ArrayList") (by decide +kernel)) ht hA
  have l1 := hts (.laysStatic Bundle.tN "UNASSIGNED_STACK" Bundle.steD) (by decide +kernel)
  have l2 := hts (.laysStatic Bundle.tN "SUPPRESSED_SENTINEL" Bundle.listD) (by decide +kernel)
  have i1 := hts (.initialized "java/lang/Throwable") (by decide +kernel)
  obtain ⟨r1, hz1⟩ := xZq_of (va_Zqof l1 i1 (hg (.isRef (.static Bundle.tN "UNASSIGNED_STACK" Bundle.steD)) (by decide +kernel)) hA)
  obtain ⟨r2, hz2⟩ := xZq_of (va_Zqof l2 i1 (hg (.isRef (.static Bundle.tN "SUPPRESSED_SENTINEL" Bundle.listD)) (by decide +kernel)) hA)
  obtain ⟨mi, hMi⟩ := va_Mi.of (hg (.isRef (.mirror "[Ljava/lang/Object;")) (by decide +kernel))
  have hDc := va_Dc.of (hts (.declares ⟨"java/lang/Object", "getClass", "()Ljava/lang/Class;"⟩) (by decide +kernel))
  have htl : t < s.heap.size := by
    obtain ⟨cell, h1, -⟩ := hT
    exact (Array.getElem?_eq_some_iff.mp h1).1
  refine ⟨(t, r1, r2, mi), D, dA, ⟨⟨hx, hb, hml, hown, htx⟩, hX, hbl, ⟨hK, hdA, xaos o2 o3 o4, ⟨hZ, hT⟩, ⟨hz1, hz2⟩, hMi, hDc, l1, l2⟩, ?_⟩, htl⟩
  refine xNC_of (args := #[Value.ref b]) fun i j hi hj hne => ?_
  have key : ∀ i, i < 4 → ∀ j, j < 4 → i ≠ j → Cond.not (.castable (xcn i) (xcn j)) ∈ flatC (Jvm.Cond.and given_1 narrow_1) := by decide +kernel
  exact hg _ (key i hi j hj hne)
end LE
