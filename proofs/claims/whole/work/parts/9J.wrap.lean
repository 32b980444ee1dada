/-! STEPS THAT TOUCH NO CELL, and the law's methods that catch. -/
def xpure (cd : Nat → Option xI) : Nat → Nat × xL × List Value → Option (Nat × xL × List Value)
  | 0, x => some x
  | n + 1, x => (cd x.1).bind fun i => (if xkd i = 1 then xmath i x.1 x.2.1 x.2.2 (0, 0, []) else if xkd i = 2 then xvars i x.1 x.2.1 x.2.2 (0, 0, []) else if xkd i = 3 then xbranch i x.1 x.2.1 x.2.2 (0, 0, []) else none).bind fun y => match y with
    | .inl x' => xpure cd n (x'.1, x'.2.1, x'.2.2.1)
    | .inr _ => none
section XPU
variable {z : xzs} {p : Program} {l : Launch} {e : Env} {R : Room} {s : State} {m : MethodId} {args : Array Value} {below : List Frame} {meth : Method} {c : Code} {H : Heap} {locs : List Loc} {cells slots : Nat} {Q : State → Prop} {cc : ByteArray} {nL : Nat} {cd : Nat → Option xI}
theorem xW_pure (hx : p.tables.exec = Jvm.exec) (hb : c.code = cc) (hcd : ∀ pc i, cd pc = some i → xdec cc pc i ∧ xsi i ≤ nL) : ∀ (n : Nat) (x x' : Nat × xL × List Value), xpure cd n x = some x' → ∀ ls, xlv ls nL x.2.1 →
    (∀ ls', xlv ls' nL x'.2.1 → W p l e R s m args below meth c H locs cells slots Q (F0 m x'.1 ls' x'.2.2)) → W p l e R s m args below meth c H locs cells slots Q (F0 m x.1 ls x.2.2)
  | 0, x, x', h, ls, hl, k => by cases h; exact k ls hl
  | n + 1, x, x', h, ls, hl, k => by
    unfold xpure at h
    obtain ⟨i, h1, h2⟩ := Option.bind_eq_some_iff.mp h
    obtain ⟨y, h3, h4⟩ := Option.bind_eq_some_iff.mp h2
    obtain ⟨hd, hn⟩ := hcd _ _ h1
    split at h3
    · obtain ⟨pc', st', rfl, step⟩ := xo_math (p := p) (l := l) (e := e) (R := R) (s := s) (m := m) (args := args) (below := below) (meth := meth) (c := c) (H := H) (locs := locs) (cells := cells) (slots := slots) (Q := Q) (ls := ls) hx hb hd h3
      exact step (xW_pure hx hb hcd n _ x' h4 ls hl k)
    · split at h3
      · obtain ⟨pc', L', st', rfl, step⟩ := xo_vars (p := p) (l := l) (e := e) (R := R) (s := s) (m := m) (args := args) (below := below) (meth := meth) (c := c) (H := H) (locs := locs) (cells := cells) (slots := slots) (Q := Q) (ls := ls) hx hb hd hn h3
        exact step hl (fun ls' hl' => xW_pure hx hb hcd n _ x' h4 ls' hl' k)
      · split at h3
        · obtain ⟨pc', st', rfl, step⟩ := xo_branch (p := p) (l := l) (e := e) (R := R) (s := s) (m := m) (args := args) (below := below) (meth := meth) (c := c) (H := H) (locs := locs) (cells := cells) (slots := slots) (Q := Q) (ls := ls) hx hb hd h3
          exact step (xW_pure hx hb hcd n _ x' h4 ls hl k)
        · cases h3
end XPU
def xcn : Nat → String
  | 0 => "java/lang/IllegalArgumentException"
  | 1 => "java/util/NoSuchElementException"
  | 2 => "java/lang/UnsupportedOperationException"
  | _ => "java/lang/IllegalStateException"
/-- of the four exceptions none is of another's class -/
def xNC (U : State) : Prop := ∀ i j, i < 4 → j < 4 → ∃ ci cj, U.vm.findClass (xcn i) = some ci ∧ U.vm.findClass (xcn j) = some cj ∧ U.vm.assignable ci cj = decide (i = j)
theorem xNC.moved {u U : State} (hvm : u.vm.Alike U.vm) (h : xNC u) : xNC U := fun i j hi hj => by
  obtain ⟨ci, cj, h1, h2, h3⟩ := h i j hi hj
  exact ⟨ci, cj, by rw [hvm.findClass]; exact h1, by rw [hvm.findClass]; exact h2, by rw [hvm.assignable]; exact h3⟩
/-- what a method that catches makes of an action's end -/
def wRes (o : Nat) (r : xR) : Option xR := match r.1 with
  | .inl (some (.int v)) => (xat r.2 o).bind fun e => match e with
    | .inl (5, N, .inr (.inl f)) => if 0 < N then some (.inl (some (.int 0)), xset r.2 o (.inl (5, N, .inr (.inl (vp_updL f 0 v.toInt64))))) else none
    | _ => none
  | .inr a => (xat r.2 a).bind fun e => match e with
    | .inr (ci, _) => if 8 ≤ ci ∧ ci < 12 then some (.inl (some (.int (nI (ci - 7)))), r.2) else none
    | _ => none
  | _ => none
def xPcN (z : xzs) (D : va_G) (dA : Nat → ClassId) (as : List Value) (h : xH) : Array Value → State → Prop := fun a U => xPc z D dA as h a U ∧ xNC U
theorem xPcN_blind {z : xzs} {D : va_G} {dA : Nat → ClassId} {as : List Value} {h : xH} : FrameBlind (xPcN z D dA as h) := fun a U g mk q => ⟨xPc_blind a U g mk q.1, xNC.moved (u := U) (U := U.calling g mk a) (Vm.Alike.refl U.vm) q.2⟩
theorem vwCl_ex {i : Nat} (hi : i < 4) : ∃ rr : vw_C, vwCl[8 + i]? = some rr ∧ rr.1 = xcn i := by
  rcases (by omega : i = 0 ∨ i = 1 ∨ i = 2 ∨ i = 3) with rfl | rfl | rfl | rfl <;> exact ⟨_, rfl, rfl⟩
/-- what is to be known of the code of such a method -/
def wTab (tb : List (Nat × xI)) (idx x o : Nat) (As : List Value) (L0 : xL) (en : Nat) (ph : Nat → Nat) : Prop :=
  ∃ (k1 pcC : Nat) (L1 : xL), xpure (xlook tb) k1 (0, L0, []) = some (pcC, L1, As.reverse ++ .ref x :: [.int 0, .ref o]) ∧ pcC < en ∧ xlook tb pcC = some (.invokevirtual idx) ∧ xlook tb (pcC + 3) = some .i2l ∧ xlook tb (pcC + 4) = some .lastore ∧
    (∃ k2 pcR L2, xpure (xlook tb) k2 (pcC + 5, L1, []) = some (pcR, L2, [.int 0]) ∧ xlook tb pcR = some .ireturn) ∧
    ∀ i, i < 4 → ∀ a, ∃ k pc L, xpure (xlook tb) k (ph i, L1, [.ref a]) = some (pc, L, [.int (nI (i + 1))]) ∧ xlook tb pc = some .ireturn
def wHh (en : Nat) (ph : Nat → Nat) : List (Nat × Nat × Nat × Nat) := [(0, en, ph 0, 13), (0, en, ph 1, 15), (0, en, ph 2, 17), (0, en, ph 3, 19)]
def wCt (i : Nat) : Nat := 13 + 2 * i
def wE (en : Nat) (ph : Nat → Nat) (i : Nat) : ExceptionTableEntry × String := (⟨0, en, ph i, wCt i⟩, xcn i)
set_option maxHeartbeats 2000000 in
theorem wrap {z : xzs} {l : Launch} {y yk : MethodName} {cc bytes : ByteArray} {nL maxL cF cL n idx en x o : Nat} {tb : List (Nat × xI)} {ph : Nat → Nat} {fk : xF} {As : List Value} {h : xH} {r r' : xR} {fs : List Value}
    (hy : plainName y.cls = true) (hyc : y.cls = "CapKernelLaw") (ck : xchk cc nL tb = true) (hct : xCt z l yk (Cond.code yk bytes maxL (some .int) :: xT) cF cL fk) (hykc : yk.cls = "CapKernel")
    (hnp : (parseMethodDescriptor yk.desc).map (fun d => d.parameters.length) = some n) (hn : As.length = n) (w1 : Cond.code yk bytes maxL (some .int) ∈ xT) (w2 : Cond.initialized "CapKernel" ∈ xT) (w3 : Cond.methodLink "CapKernelLaw" idx yk ∈ xT) (w4 : Cond.instanceMethod yk ∈ xT) (w5 : Cond.selects "CapKernel" yk yk ∈ xT)
    (wc : ∀ i, i < 4 → Cond.classLink "CapKernelLaw" (wCt i) (xcn i) ∈ xT) (hcat : (As.all fun v => v.category == 1) = true) (hnL : As.length + 2 ≤ nL) (ht : wTab tb idx x o As (xargs 0 (.ref x :: (As ++ [.ref o]))) en ph)
    (hxo : xat h x = some (.inr (0, fs))) (hf : fk (.ref x :: As) h = some r) (hr : wRes o r = some r') :
    xMono h r'.2 ∧ (∃ v, r'.1 = .inl v) ∧ ∀ (D : va_G) (dA : Nat → ClassId), Met l y (Cond.codeWith y cc nL (some .int) (wHh en ph) :: xT) (xRm (cF + 1) (8 + (maxL + 11) + cL) h r'.2) (xPcN z D dA (.ref x :: (As ++ [.ref o])) h) (xQc D dA h r') (xn r'.2 - xn h) (r'.2.2.1 - h.2.1) (fun q => h.1 ≤ q) := by
  obtain ⟨hmo, hctD⟩ := hct _ _ _ hf
  have hsh : (∃ v N f, r.1 = .inl (some (.int v)) ∧ xat r.2 o = some (.inl (5, N, .inr (.inl f))) ∧ 0 < N ∧ r' = (.inl (some (.int 0)), xset r.2 o (.inl (5, N, .inr (.inl (vp_updL f 0 v.toInt64)))))) ∨ (∃ a i gs, r.1 = .inr a ∧ i < 4 ∧ xat r.2 a = some (.inr (8 + i, gs)) ∧ r' = (.inl (some (.int (nI (i + 1)))), r.2)) := by
    obtain ⟨r1, r2⟩ := r
    unfold wRes at hr
    split at hr
    · rename_i v e1
      obtain ⟨e, h1, h2⟩ := Option.bind_eq_some_iff.mp hr
      split at h2
      · rename_i N f
        split at h2
        · rename_i hN
          cases h2
          exact Or.inl ⟨v, N, f, e1, h1, hN, rfl⟩
        · cases h2
      · cases h2
    · rename_i a e1
      obtain ⟨e, h1, h2⟩ := Option.bind_eq_some_iff.mp hr
      split at h2
      · rename_i ci gs
        split at h2
        · rename_i hci
          cases h2
          refine Or.inr ⟨a, ci - 8, gs, e1, by omega, ?_, ?_⟩
          · rw [show 8 + (ci - 8) = ci by omega]; exact h1
          · rw [show ci - 8 + 1 = ci - 7 by omega]
        · cases h2
      · cases h2
    · cases hr
  have hmr : xMono r.2 r'.2 := by
    rcases hsh with ⟨v, N, f, e1, e2, e3, rfl⟩ | ⟨a, i, gs, e1, e2, e3, rfl⟩
    · exact xset_mono _ _ _
    · exact xMono.rfl' _
  have hmo' := hmo.trans hmr
  refine ⟨hmo', by rcases hsh with ⟨v, N, f, e1, e2, e3, rfl⟩ | ⟨a, i, gs, e1, e2, e3, rfl⟩ <;> exact ⟨_, rfl⟩, fun D dA => ?_⟩
  obtain ⟨hM, hT⟩ := hctD D dA
  have hn1 := hmo.n
  have hs1 := hmo.2.2
  have hn2 : xn r.2 = xn r'.2 := by
    rcases hsh with ⟨v, N, f, e1, e2, e3, rfl⟩ | ⟨a, i, gs, e1, e2, e3, rfl⟩
    · exact (xset_n _ _ _).symm
    · rfl
  have hs2 : r.2.2.1 = r'.2.2.1 := by
    rcases hsh with ⟨v, N, f, e1, e2, e3, rfl⟩ | ⟨a, i, gs, e1, e2, e3, rfl⟩ <;> rfl
  refine va_MetW (hh := wHh en ph) hy rfl ?_
  intro p e s m args below meth c s₁ B hml hv0
  obtain ⟨⟨rfl, ⟨hsz, hP⟩, hK⟩, hNC⟩ := hv0
  have hts := atoms_spec (ws := Cond.codeWith y cc nL (some .int) (wHh en ph) :: xT) B.pre
  have hts' : ∀ w ∈ xT, w.before (Value.ref x :: (As ++ [.ref o])).toArray s = true := fun w hw => hts w (List.mem_cons_of_mem _ hw)
  have hown : s.vm.findClass "CapKernelLaw" = some m.cls := by rw [← hyc]; exact findClass_of_methodNamed B.named
  have htable : c.exceptionTable.toList = tableOf (wHh en ph) := by
    obtain ⟨m', meth', c', hname', hmeth, hcode, -, -, htb, -, -, -⟩ := Cond.codeWith_spec (hts _ List.mem_cons_self)
    cases B.named.symm.trans hname'
    cases B.method.symm.trans hmeth
    cases (Stand.of_body B).code.symm.trans hcode
    rw [← htb, table_eq]
  have S : CallFix p m c cc nL s (Value.ref x :: (As ++ [.ref o])).toArray (Cond.codeWith y cc nL (some .int) (wHh en ph) :: xT) "CapKernelLaw" := ⟨B.exec, B.bytes, hml, hown, hts⟩
  have hcat' : (Value.ref x :: (As ++ [.ref o])).all (fun v => v.category == 1) = true := by
    rw [List.all_cons, List.all_append, hcat]
    rfl
  obtain ⟨ha1, ha2, ha3⟩ := xargs_eq _ 0 hcat'
  have hl := lv_entry (Value.ref x :: (As ++ [.ref o])) (n := nL) (by rw [ha2]; simp only [List.length_cons, List.length_append, List.length_nil]; omega)
  rw [lg_entry_eq]
  generalize (lg_sl (Value.ref x :: (As ++ [.ref o])) ++ List.replicate (nL - (lg_sl (Value.ref x :: (As ++ [.ref o]))).length) Slot.unset).toArray = ls0 at hl ⊢
  rw [ha1] at hl
  have hlx : xlv ls0 nL (xargs 0 (.ref x :: (As ++ [.ref o]))) := ⟨hl, ha3⟩
  obtain ⟨k1, pcC, L1, t1, t2, t3, t4, t5, ⟨k2, pcR, L2, t6, t7⟩, t8⟩ := ht
  have hcd : ∀ pc i, xlook tb pc = some i → xdec cc pc i ∧ xsi i ≤ nL := fun pc i hi => xchk_ok ck hi
  have hb1 : h.1 ≤ s.heap.size := by rw [hsz]; unfold xn; omega
  have hb2 : s.heap.size ≤ xn h := by rw [hsz]; exact Nat.le_refl _
  have hA : xAt D dA s [] h s.heap := ⟨hP, va_S.rf⟩
  have hd1 := (hcd _ _ t3).1.len (by simp [xlen])
  have hG : GoodIn (Cond.codeWith y cc nL (some .int) (wHh en ph) :: xT) (Cond.code yk bytes maxL (some .int) :: xT) := xGood_in w1
  have up : ∀ w ∈ xT, w ∈ (Cond.codeWith y cc nL (some .int) (wHh en ph) :: xT) := fun w hw => List.mem_cons_of_mem _ hw
  have hykm : yk.cls ≠ "java/lang/invoke/MethodHandle" ∧ yk.cls ≠ "java/lang/invoke/VarHandle" ∧ (parseMethodDescriptor yk.desc).map (fun d => d.parameters.length) = some n := ⟨by rw [hykc]; decide, by rw [hykc]; decide, hnp⟩
  have cb := callB_of (R := (headSpec (Cond.codeWith y cc nL (some .int) (wHh en ph) :: xT) (xRm (cF + 1) (8 + (maxL + 11) + cL) h r'.2)).room) (rm := xRm cF cL h r.2) (own := "CapKernelLaw") (index := idx) n hts hG rfl rfl rfl (by rw [hykc]; exact hts' _ w2) (hts' _ w3) hykm ⟨Nat.le_refl _, Nat.le_refl _⟩
  have cw : CallW (headSpec (Cond.codeWith y cc nL (some .int) (wHh en ph) :: xT) (xRm (cF + 1) (8 + (maxL + 11) + cL) h r'.2)).room s (Value.ref x :: (As ++ [.ref o])).toArray "CapKernelLaw" "CapKernel" idx yk bytes maxL (some .int) (Cond.code yk bytes maxL (some .int) :: xT) (xRm cF cL h r.2) (xn r.2 - xn h) (r.2.2.1 - h.2.1) n := ⟨cb, hts' _ w4, hts' _ w5⟩
  have hrecv := va_recv hK.1 hA.1 (show vwCl[0]? = some ("CapKernel", TC0, 7) from rfl) (xws_at dA hxo)
  have hroom : (0 + (xn r.2 - xn h) ≤ (headSpec (Cond.codeWith y cc nL (some .int) (wHh en ph) :: xT) (xRm (cF + 1) (8 + (maxL + 11) + cL) h r'.2)).room.cells ∧ 0 + (r.2.2.1 - h.2.1) ≤ (headSpec (Cond.codeWith y cc nL (some .int) (wHh en ph) :: xT) (xRm (cF + 1) (8 + (maxL + 11) + cL) h r'.2)).room.slots) := by
    constructor
    · show 0 + (xn r.2 - xn h) ≤ xn r'.2 - xn h
      omega
    · show 0 + (r.2.2.1 - h.2.1) ≤ r'.2.2.1 - h.2.1
      omega
  have hpre : PreV s s.heap "CapKernel" x (xPc z D dA (.ref x :: As) h) As := ⟨xPc_blind, hrecv, x_pre hK hA hb1 hsz⟩
  have hcat8 : (([.int 0, .ref o] : List Value).map fun v => v.category).sum ≤ 8 := by show 1 + (1 + 0) ≤ 8; decide
  refine xW_pure B.exec B.bytes hcd k1 _ _ t1 ls0 hlx (fun ls hl1 => ?_)
  rcases hsh with ⟨v, N, f, e1, e2, e3, rfl⟩ | ⟨a, i, gs, e1, e2, e3, rfl⟩
  · refine x_back (va_runV (As := As) (rest := [.int 0, .ref o]) S (hM _ e1) cw hpre rfl hn hl1.1.1 rfl (lv_room hcat8) hd1 hroom) e1 hb1 hmo.1 hA (fun H' locs' hA' => ?_)
    refine lv_i2l B.exec B.bytes ((hcd _ _ t4).1.len (by simp [xlen])) rfl ?_
    have ha5 : xaty[5]? = some .long := rfl
    have hK' : xk z D dA r.2.1 s := by rw [hmo.1]; exact hK
    have ho := (xat_at e2).1
    refine va_last (i := 0) (x := v.toInt64) B.exec B.bytes (hK'.arr ha5) hA'.1 (xws_D dA r.2) hA'.2 (o - r.2.1) 0 (xws_at dA e2) rfl (by unfold vp_in; rw [show (0 : Int32).toNatClampNeg = 0 from by decide]; exact fun w => w.elim (by decide) (by omega)) ((hcd _ _ t5).1.len (by simp [xlen])) (fun H1 locs1 hP1 _ hS1 => ?_)
    have hA2 : xAt D dA s locs1 (xset r.2 o (.inl (5, N, .inr (.inl (vp_updL f 0 v.toInt64))))) H1 := by
      refine ⟨?_, hS1⟩
      rw [← xws_set dA _ ho]
      exact hP1
    refine xW_pure B.exec B.bytes hcd k2 _ _ t6 ls hl1 (fun ls' hl' => ?_)
    refine xW_ix (cells' := xn (xset r.2 o (.inl (5, N, .inr (.inl (vp_updL f 0 v.toInt64))))) - xn h) (slots' := (xset r.2 o (.inl (5, N, .inr (.inl (vp_updL f 0 v.toInt64))))).2.1 - h.2.1) (by rw [xset_n]; omega) (by show r.2.2.1 - h.2.1 = _; omega) ?_
    exact W.iret (Qc := xQc D dA h (.inl (some (.int 0)), xset r.2 o (.inl (5, N, .inr (.inl (vp_updL f 0 v.toInt64)))))) B.exec B.bytes B.returns (fun t ht _ => ⟨rfl, by rw [ht]; exact hA2.1, by rw [← hmo.1]; exact hA2.2.F ht⟩) (fun q hq => by rw [← hmo.1]; exact hA2.2.2.2 q hq) ((hcd _ _ t7).1.len (by simp [xlen])) B.notSynchronized
  · intro T hT0 X
    obtain ⟨x', st₀, t', T', Lc, f0, X', hL, f1, ⟨q1, q2, q3⟩, hst⟩ := xthrV (As := As) (rest := [.int 0, .ref o]) (g := F0 m pcC ls (As.reverse ++ .ref x :: [.int 0, .ref o])) S (hT _ e1) cw hpre rfl hn hl1.1.1 rfl (lv_room hcat8) hd1 hroom (fun st o t hq => by
      have hq1 := hq.1
      rw [e1] at hq1
      exact ⟨a, hq1⟩) hT0 X
    rw [e1] at q1
    cases q1
    have hA' : xAt D dA s ([] ++ Lc) r.2 T'.heap := by
      refine ⟨by rw [f1]; exact q2, ?_, ?_, ?_⟩
      · rw [f1]
        exact Nat.le_trans hA.2.1 (by rw [← f0]; exact q3.1)
      · intro q h1 h2
        rw [hmo.1] at h2
        rw [f1, q3.2 q (by rw [f0]; exact Nat.lt_of_lt_of_le h1 hA.2.1) h2, f0]
      · intro q hq
        rw [hmo.1]
        exact hL q hq
    have hK' : xk z D dA r.2.1 s := by rw [hmo.1]; exact hK
    obtain ⟨rr, g1, g2⟩ := vwCl_ex e2
    obtain ⟨cell, c1, c2, c3⟩ := va_recv hK'.1 hA'.1 g1 (xws_at dA e3)
    rw [g2] at c3
    have hent : ∀ j b, j < 4 → b = decide (i = j) → xEnt "CapKernelLaw" (Value.ref x :: (As ++ [.ref o])).toArray s pcC cell.cls (wE en ph j) b := by
      intro j b hj hbj
      obtain ⟨ci, cj, n1, n2, n3⟩ := hNC i j e2 hj
      cases c3.symm.trans n1
      refine ⟨?_, ?_, hts' _ (wc j hj), cj, n2, by rw [hbj]; exact n3⟩
      · show (decide (0 ≤ pcC) && decide (pcC < en)) = true
        simp [t2]
      · show wCt j ≠ 0
        unfold wCt
        omega
    have hkc : ∃ k, s.vm.classes[cell.cls]? = some k := by
      obtain ⟨k, hk, -⟩ := Vm.findClass_spec c3
      exact ⟨k, hk⟩
    have hcome : ∃ vm', Stand p l e (headSpec (Cond.codeWith y cc nL (some .int) (wHh en ph) :: xT) (xRm (cF + 1) (8 + (maxL + 11) + cL) h r.2)).room s m (Value.ref x :: (As ++ [.ref o])).toArray below meth c (T'.setVm vm') ([] ++ Lc) (0 + (xn r.2 - xn h)) (0 + (r.2.2.1 - h.2.1)) ∧
        ∀ target, Steps p.tables e below ((T'.setVm vm').setTop (F0 m (ph i) ls [.ref a])) target → Steps p.tables e below ((T'.setTop (F0 m pcC ls [.int 0, .ref o])).pushFrame (.throwing a)) target := by
      rcases (by omega : i = 0 ∨ i = 1 ∨ i = 2 ∨ i = 3) with rfl | rfl | rfl | rfl
      · exact xcaught (g := F0 m pcC ls [.int 0, .ref o]) X' rfl hown c2 hkc c1 [] (wE en ph 0) _ htable (fun q hq => by cases hq) (hent 0 true (by omega) rfl)
      · exact xcaught (g := F0 m pcC ls [.int 0, .ref o]) X' rfl hown c2 hkc c1 [wE en ph 0] (wE en ph 1) _ htable (fun q hq => by
          simp only [List.mem_cons, List.not_mem_nil, or_false] at hq
          subst hq
          exact hent _ _ (by omega) rfl) (hent 1 true (by omega) rfl)
      · exact xcaught (g := F0 m pcC ls [.int 0, .ref o]) X' rfl hown c2 hkc c1 [wE en ph 0, wE en ph 1] (wE en ph 2) _ htable (fun q hq => by
          simp only [List.mem_cons, List.not_mem_nil, or_false] at hq
          rcases hq with rfl | rfl <;> exact hent _ _ (by omega) rfl) (hent 2 true (by omega) rfl)
      · exact xcaught (g := F0 m pcC ls [.int 0, .ref o]) X' rfl hown c2 hkc c1 [wE en ph 0, wE en ph 1, wE en ph 2] (wE en ph 3) _ htable (fun q hq => by
          simp only [List.mem_cons, List.not_mem_nil, or_false] at hq
          rcases hq with rfl | rfl | rfl <;> exact hent _ _ (by omega) rfl) (hent 3 true (by omega) rfl)
    obtain ⟨vm', X2, hst2⟩ := hcome
    obtain ⟨k, pc, L, u1, u2⟩ := t8 i e2 a
    have hend : W p l e (headSpec (Cond.codeWith y cc nL (some .int) (wHh en ph) :: xT) (xRm (cF + 1) (8 + (maxL + 11) + cL) h r.2)).room s m (Value.ref x :: (As ++ [.ref o])).toArray below meth c T'.heap ([] ++ Lc) (0 + (xn r.2 - xn h)) (0 + (r.2.2.1 - h.2.1)) (MQ below (xQc D dA h (.inl (some (.int (nI (i + 1)))), r.2)) (Value.ref x :: (As ++ [.ref o])).toArray s (xn r.2 - xn h) (r.2.2.1 - h.2.1) (fun q => h.1 ≤ q)) (F0 m (ph i) ls [.ref a]) := by
      refine xW_pure B.exec B.bytes hcd k _ _ u1 ls hl1 (fun ls' hl' => ?_)
      refine xW_ix (cells' := xn r.2 - xn h) (slots' := r.2.2.1 - h.2.1) (by omega) (by omega) ?_
      exact W.iret (Qc := xQc D dA h (.inl (some (.int (nI (i + 1)))), r.2)) B.exec B.bytes B.returns (fun t ht _ => ⟨rfl, by rw [ht]; exact hA'.1, by rw [← hmo.1]; exact hA'.2.F ht⟩) (fun q hq => by rw [← hmo.1]; exact hA'.2.2.2 q hq) ((hcd _ _ u2).1.len (by simp [xlen])) B.notSynchronized
    obtain ⟨t2', a1, b1⟩ := hend (T'.setVm vm') rfl X2
    exact ⟨t2', hst t2' (hst2 t2' a1), b1⟩
