/-! THE ABSTRACT MACHINE IS RIGHT: a method whose code, fields, classes and calls are as its table says does what the machine says. -/
section XG
def xGcall (z : xzs) (l : Launch) (own : String) (Ts : List Cond) (rF rL : Nat) (idx : Nat) (c : xC) : Prop :=
  (c.1 = 3 ∧ Cond.methodLink own idx objectInit ∈ Ts ∧ Cond.instanceMethod objectInit ∈ Ts ∧ Cond.code objectInit ⟨#[0xb1]⟩ 1 none ∈ Ts ∧ 1 ≤ rF ∧ 20 ≤ rL) ∨
  (c.1 = 4 ∧ Cond.methodLink own idx arraycopyName ∈ Ts ∧ Cond.native arraycopyName ∈ Ts ∧ Cond.static arraycopyName ∈ Ts ∧ Cond.initialized "java/lang/System" ∈ Ts ∧ 1 ≤ rF ∧ 8 + (nativeFrameWords "java/lang/System" "arraycopy" 5 + 11) ≤ rL) ∨
  ∃ (y : MethodName) (bytes : ByteArray) (maxL : Nat) (ret : Option FieldType) (w w' : List Cond) (cF cL : Nat), xCt z l y w cF cL c.2.2.2 ∧ w = Cond.code y bytes maxL ret :: w' ∧ (cF + 1 ≤ rF ∧ 8 + (maxL + 11) + cL ≤ rL) ∧
    (y.cls ≠ "java/lang/invoke/MethodHandle" ∧ y.cls ≠ "java/lang/invoke/VarHandle" ∧ (parseMethodDescriptor y.desc).map (fun d => d.parameters.length) = some c.2.1) ∧
    (GoodIn Ts w ∧ Cond.initialized y.cls ∈ Ts ∧ Cond.methodLink own idx y ∈ Ts) ∧
    ((c.1 = 0 ∧ Cond.static y ∈ Ts) ∨ (c.1 = 1 ∧ (Cond.instanceMethod y ∈ Ts ∧ Cond.selects y.cls y y ∈ Ts) ∧ ∃ rr : vw_C, vwCl[c.2.2.1]? = some rr ∧ rr.1 = y.cls) ∨ (c.1 = 2 ∧ ret = none ∧ y.name = "<init>" ∧ Cond.instanceMethod y ∈ Ts))
theorem xcat_le (v : Value) : v.category ≤ 2 := by cases v <;> simp [Value.category]
theorem xcat_sum : ∀ t : List Value, (t.map fun v => v.category).sum ≤ 2 * t.length
  | [] => by simp
  | v :: t => by
    have h1 := xcat_sum t
    have h2 := xcat_le v
    simp only [List.map_cons, List.sum_cons, List.length_cons]
    omega
theorem xok_cat {t : List Value} (h : xok t) : (t.map fun v => v.category).sum ≤ 8 := by
  rcases h with h | h
  · exact Nat.le_trans (xcat_sum t) (by omega)
  · exact h
variable {z : xzs} {p : Program} {l : Launch} {e : Env} {R : Room} {s : State} {m : MethodId} {args : Array Value} {below : List Frame} {meth : Method} {c : Code} {H : Heap} {locs : List Loc} {Q : State → Prop} {cc : ByteArray} {pc : Nat} {ls : Array Slot} {D : va_G} {dA : Nat → ClassId} {h h0 : xH} {r : xR} {nL rF rL : Nat} {Ts : List Cond} {own : String}
/-- what stays the same along a walk -/
def xFix (z : xzs) (p : Program) (s : State) (m : MethodId) (args : Array Value) (meth : Method) (c : Code) (cc : ByteArray) (nL : Nat) (Ts : List Cond) (own : String) (R : Room) (rF rL : Nat) (D : va_G) (dA : Nat → ClassId) (h0 : xH) : Prop :=
  CallFix p m c cc nL s args Ts own ∧ (R.frames = rF ∧ R.locals = rL) ∧ xk z D dA h0.1 s ∧ meth.locks = false ∧ c.exceptionTable.isEmpty = true ∧ s.heap.size = xn h0
theorem xFix.out (F : xFix z p s m args meth c cc nL Ts own R rF rL D dA h0) (pc : Nat) : ∀ x ∈ c.exceptionTable.toList, covers x pc = false := by
  intro x hx
  have : c.exceptionTable.toList = [] := by
    have := F.2.2.2.2.1
    rw [Array.isEmpty_iff] at this
    rw [this]
  rw [this] at hx
  cases hx
set_option maxHeartbeats 1000000 in
theorem xcall_run {idx : Nat} {c0 : xC} {y : MethodName} {bytes : ByteArray} {maxL : Nat} {ret : Option FieldType} {w w' : List Cond} {cF cL : Nat} {st As t : List Value} {b : Nat} {L0 : xL} (F : xFix z p s m args meth c cc nL Ts own R rF rL D dA h0) (hm0 : xMono h0 h) (hl : xlv ls nL L0)
    (hct : xCt z l y w cF cL c0.2.2.2) (hw : w = Cond.code y bytes maxL ret :: w') (hR : cF + 1 ≤ rF ∧ 8 + (maxL + 11) + cL ≤ rL)
    (hy : y.cls ≠ "java/lang/invoke/MethodHandle" ∧ y.cls ≠ "java/lang/invoke/VarHandle" ∧ (parseMethodDescriptor y.desc).map (fun d => d.parameters.length) = some c0.2.1) (hlen : As.length = c0.2.1) (ht : xok t)
    (hA : xAt D dA s locs h H) (hrc : xn r.2 - s.heap.size ≤ R.cells) (hrs : r.2.2.1 - h0.2.1 ≤ R.slots) (hGW : GoodIn Ts w ∧ Cond.initialized y.cls ∈ Ts ∧ Cond.methodLink own idx y ∈ Ts)
    (kind : (decode cc pc = .ok (.invokestatic idx, 3) ∧ st = As.reverse ++ t ∧ Cond.static y ∈ Ts ∧ c0.2.2.2 As h = some r) ∨
      (decode cc pc = .ok (.invokevirtual idx, 3) ∧ st = As.reverse ++ .ref b :: t ∧ (Cond.instanceMethod y ∈ Ts ∧ Cond.selects y.cls y y ∈ Ts) ∧ (∃ (rr : vw_C) (fs : List Value), vwCl[c0.2.2.1]? = some rr ∧ rr.1 = y.cls ∧ xat h b = some (.inr (c0.2.2.1, fs))) ∧ c0.2.2.2 (.ref b :: As) h = some r) ∨
      (decode cc pc = .ok (.invokespecial idx, 3) ∧ st = As.reverse ++ .ref b :: t ∧ (ret = none ∧ y.name = "<init>" ∧ Cond.instanceMethod y ∈ Ts) ∧ c0.2.2.2 (.ref b :: As) h = some r ∧ ∃ v, r.1 = .inl v)) :
    (∀ v, r.1 = .inl v → (∀ H' locs', xAt D dA s locs' r.2 H' → W p l e R s m args below meth c H' locs' (xn r.2 - s.heap.size) (r.2.2.1 - h0.2.1) Q (F0 m (pc + 3) ls (v.toList ++ t))) → W p l e R s m args below meth c H locs (xn h - s.heap.size) (h.2.1 - h0.2.1) Q (F0 m pc ls st)) ∧
    (∀ x, r.1 = .inr x → W p l e R s m args below meth c H locs (xn h - s.heap.size) (h.2.1 - h0.2.1) (xZ below args s D dA h0 r) (F0 m pc ls st)) := by
  obtain ⟨S, hRR, hK, hlocks, hex, hsz⟩ := id F
  have hb0 : h.1 = h0.1 := hm0.1
  have hb1 : h.1 ≤ s.heap.size := by rw [hsz, hb0]; unfold xn; omega
  have hb2 : s.heap.size ≤ xn h := by rw [hsz]; exact hm0.n
  have hs0 : h0.2.1 ≤ h.2.1 := hm0.2.2
  rw [← hb0] at hK
  have hR' : cF + 1 ≤ R.frames ∧ 8 + (maxL + 11) + cL ≤ R.locals := by rw [hRR.1, hRR.2]; exact hR
  have hcat : (t.map fun v => v.category).sum ≤ 8 := xok_cat ht
  have key : ∀ as, c0.2.2.2 as h = some r → xMono h r.2 := fun as hf => (hct as h r hf).1
  obtain ⟨hG, hi1, hi2⟩ := hGW
  have hts := S.2.2.2.2
  rcases kind with ⟨hdg, rfl, hst0, hf⟩ | ⟨hdg, rfl, ⟨hi3, hi4⟩, ⟨rr, fs, g1, g2, g3⟩, hf⟩ | ⟨hdg, rfl, ⟨hret, hnm, hi3⟩, hf, hv0⟩
  · obtain ⟨hmo, hct⟩ := hct _ _ _ hf
    obtain ⟨hM, hT⟩ := hct D dA
    have hn := hmo.n
    have hs2 := hmo.2.2
    have cw := And.intro (callB_of (R := R) (rm := xRm cF cL h r.2) (own := own) (index := idx) c0.2.1 hts hG hw rfl rfl (hts _ hi1) (hts _ hi2) hy hR') (hts _ hst0)
    refine ⟨fun v hv k => xW_sized fun hz => ?_, fun x hv => xW_sized fun hz => ?_⟩
    · refine x_back (va_runS (As := As) (rest := t) S (hM v hv) cw ⟨xPc_blind, x_pre hK hA hb1 (x_hsize hA hb1 hb2 hz)⟩ rfl hlen hl.1.1 rfl (lv_room hcat) hdg ⟨by omega, by omega⟩) hv hb1 hmo.1 hA (fun H' locs' hA' => ?_)
      exact xW_ix (by omega) (by omega) (k H' locs' hA')
    · intro T hT0 X
      obtain ⟨x', st₀, t', T', Lc, e0, X', hL, e1, ⟨q1, q2, q3⟩, hst⟩ := xthrS (As := As) (rest := t) S (hT x hv) cw ⟨xPc_blind, x_pre hK hA hb1 (x_hsize hA hb1 hb2 hz)⟩ rfl hlen hl.1.1 rfl (lv_room hcat) hdg ⟨by omega, by omega⟩ (fun st o t hq => by
        have hq1 := hq.1
        rw [hv] at hq1
        exact ⟨x, hq1⟩) hT0 X
      rw [hv] at q1
      cases q1
      have hA' : xAt D dA s (locs ++ Lc) r.2 T'.heap := by
        refine ⟨by rw [e1]; exact q2, ?_, ?_, ?_⟩
        · rw [e1]
          exact Nat.le_trans hA.2.1 (by rw [← e0]; exact q3.1)
        · intro q h1 h2
          rw [hmo.1] at h2
          rw [e1, q3.2 q (by rw [e0]; exact Nat.lt_of_lt_of_le h1 hA.2.1) h2, e0]
          exact hA.2.2.1 q h1 h2
        · intro q hq
          rw [hmo.1]
          rcases List.mem_append.mp hq with z | z
          · exact hA.2.2.2 q z
          · exact hL q z
      have hc1 : xn h - s.heap.size + (xn r.2 - xn h) = xn r.2 - s.heap.size := by omega
      have hc2 : h.2.1 - h0.2.1 + (r.2.2.1 - h.2.1) = r.2.2.1 - h0.2.1 := by omega
      rw [hc1, hc2] at X'
      obtain ⟨t2, a1, b1⟩ := x_thrown (g := { F0 m pc ls (As.reverse ++ t) with stack := t }) X' hv rfl rfl rfl (F.out pc) hlocks (hmo.1.trans hb0) hA'
      exact ⟨t2, hst t2 a1, b1⟩
  · obtain ⟨hmo, hct⟩ := hct _ _ _ hf
    obtain ⟨hM, hT⟩ := hct D dA
    have hn := hmo.n
    have hs2 := hmo.2.2
    have cw := And.intro (callB_of (R := R) (rm := xRm cF cL h r.2) (own := own) (index := idx) c0.2.1 hts hG hw rfl rfl (hts _ hi1) (hts _ hi2) hy hR') (And.intro (hts _ hi3) (hts _ hi4))
    have hrecv := va_recv hK.1 hA.1 g1 (xws_at dA g3)
    rw [g2] at hrecv
    refine ⟨fun v hv k => xW_sized fun hz => ?_, fun x hv => xW_sized fun hz => ?_⟩
    · refine x_back (va_runV (As := As) (rest := t) S (hM v hv) cw ⟨xPc_blind, hrecv, x_pre hK hA hb1 (x_hsize hA hb1 hb2 hz)⟩ rfl hlen hl.1.1 rfl (lv_room hcat) hdg ⟨by omega, by omega⟩) hv hb1 hmo.1 hA (fun H' locs' hA' => ?_)
      exact xW_ix (by omega) (by omega) (k H' locs' hA')
    · intro T hT0 X
      obtain ⟨x', st₀, t', T', Lc, e0, X', hL, e1, ⟨q1, q2, q3⟩, hst⟩ := xthrV (As := As) (rest := t) S (hT x hv) cw ⟨xPc_blind, hrecv, x_pre hK hA hb1 (x_hsize hA hb1 hb2 hz)⟩ rfl hlen hl.1.1 rfl (lv_room hcat) hdg ⟨by omega, by omega⟩ (fun st o t hq => by
        have hq1 := hq.1
        rw [hv] at hq1
        exact ⟨x, hq1⟩) hT0 X
      rw [hv] at q1
      cases q1
      have hA' : xAt D dA s (locs ++ Lc) r.2 T'.heap := by
        refine ⟨by rw [e1]; exact q2, ?_, ?_, ?_⟩
        · rw [e1]
          exact Nat.le_trans hA.2.1 (by rw [← e0]; exact q3.1)
        · intro q h1 h2
          rw [hmo.1] at h2
          rw [e1, q3.2 q (by rw [e0]; exact Nat.lt_of_lt_of_le h1 hA.2.1) h2, e0]
          exact hA.2.2.1 q h1 h2
        · intro q hq
          rw [hmo.1]
          rcases List.mem_append.mp hq with z | z
          · exact hA.2.2.2 q z
          · exact hL q z
      have hc1 : xn h - s.heap.size + (xn r.2 - xn h) = xn r.2 - s.heap.size := by omega
      have hc2 : h.2.1 - h0.2.1 + (r.2.2.1 - h.2.1) = r.2.2.1 - h0.2.1 := by omega
      rw [hc1, hc2] at X'
      obtain ⟨t2, a1, b1⟩ := x_thrown (g := { F0 m pc ls (As.reverse ++ .ref b :: t) with stack := t }) X' hv rfl rfl rfl (F.out pc) hlocks (hmo.1.trans hb0) hA'
      exact ⟨t2, hst t2 a1, b1⟩
  · subst hret
    obtain ⟨hmo, hct⟩ := hct _ _ _ hf
    obtain ⟨hM, hT⟩ := hct D dA
    have hn := hmo.n
    have hs2 := hmo.2.2
    have cw := cwI (R := R) (rm := xRm cF cL h r.2) (own := own) (index := idx) c0.2.1 hts hG hw rfl rfl (hts _ hi1) (hts _ hi2) (hts _ hi3) hnm hy hR'
    refine ⟨fun v hv k => xW_sized fun hz => ?_, fun x hv => ?_⟩
    · refine x_back (va_runI (As := As) (rest := t) S (hM v hv) cw ⟨xPc_blind, x_pre hK hA hb1 (x_hsize hA hb1 hb2 hz)⟩ rfl hlen hl.1.1 rfl (lv_room hcat) hdg ⟨by omega, by omega⟩) hv hb1 hmo.1 hA (fun H' locs' hA' => ?_)
      exact xW_ix (by omega) (by omega) (k H' locs' hA')
    · obtain ⟨v, hv'⟩ := hv0
      rw [hv] at hv'
      cases hv'
end XG
