/-! THE LAW'S WALK: one arm of its switch. -/
abbrev tl (pc : Nat) : Option xI := xlook tb_W_law pc
def armOk (P n iW iM : Nat) : Prop := tl P = some (.aload_n 1) ∧ (∀ j, j < n → ldOk (P + 1 + 6 * j) (1 + j)) ∧ tl (P + 1 + 6 * n) = some (.aload_n 3) ∧ tl (P + 2 + 6 * n) = some (.invokestatic iW) ∧ tl (P + 5 + 6 * n) = some (.istore 5) ∧ tl (P + 7 + 6 * n) = some (.aload_n 2) ∧
  (∀ j, j < n → ldOk (P + 8 + 6 * n + 6 * j) (1 + j)) ∧ tl (P + 8 + 12 * n) = some (.invokevirtual iM) ∧ tl (P + 11 + 12 * n) = some (.istore 6) ∧ tl (P + 13 + 12 * n) = some (.aload_n 2) ∧ tl (P + 14 + 12 * n) = some (.invokevirtual 80) ∧ tl (P + 17 + 12 * n) = some (.iload 5) ∧ tl (P + 19 + 12 * n) = some (.if_icmp .eq 5) ∧
  tl (P + 24 + 12 * n) = some (.iload 5) ∧ tl (P + 26 + 12 * n) = some (.ifCond .ne 15) ∧ tl (P + 29 + 12 * n) = some (.aload_n 3) ∧ tl (P + 30 + 12 * n) = some (.iconst 0) ∧ tl (P + 31 + 12 * n) = some .laload ∧ tl (P + 32 + 12 * n) = some (.iload 6) ∧ tl (P + 34 + 12 * n) = some .i2l ∧ tl (P + 35 + 12 * n) = some .lcmp ∧
  tl (P + 36 + 12 * n) = some (.ifCond .eq 5) ∧ tl (P + 41 + 12 * n) = some (.goto (1238 - ((P + 41 + 12 * n : Nat) : Int)))
section LA
variable {z : xzs} {p : Program} {l : Launch} {e : Env} {s : State} {m : MethodId} {below : List Frame} {meth : Method} {c : Code} {H : Heap} {locs : List Loc} {Q : State → Prop} {D : va_G} {dA : Nat → ClassId} {b Ls x M o : Nat} {xs : Nat → Int32} {ls : Array Slot} {i : Int32}
def lL (b x M o : Nat) (i : Int32) : xL := [(0, .ref b), (1, .ref x), (2, .ref M), (3, .ref o), (4, .int i)]
/-- what a contract of a method of the reference gives the law -/
def mGood (z : xzs) (l : Launch) (y : MethodName) (n idx : Nat) (f : xF) : Prop := ∃ (bytes : ByteArray) (maxL cF cL : Nat), xCt z l y (Cond.code y bytes maxL (some .int) :: xT) cF cL f ∧ Cond.code y bytes maxL (some .int) ∈ xT ∧ Cond.initialized y.cls ∈ xT ∧ Cond.methodLink "CapKernelLaw" idx y ∈ xT ∧ Cond.instanceMethod y ∈ xT ∧ Cond.selects y.cls y y ∈ xT ∧
  (y.cls ≠ "java/lang/invoke/MethodHandle" ∧ y.cls ≠ "java/lang/invoke/VarHandle" ∧ (parseMethodDescriptor y.desc).map (fun d => d.parameters.length) = some n) ∧ (cF + 1 ≤ 2048 ∧ 8 + (maxL + 11) + cL ≤ 84000)
def cGood (z : xzs) (l : Launch) (y : MethodName) (n idx : Nat) (f : xF) (As : List Value) : Prop := ∃ (cc : ByteArray) (nL rF rL en : Nat) (ph : Nat → Nat), wGood z l y (Cond.codeWith y cc nL (some .int) (wHh en ph) :: xT) rF rL f As ∧ Cond.codeWith y cc nL (some .int) (wHh en ph) ∈ xT ∧ Cond.initialized y.cls ∈ xT ∧ Cond.methodLink "CapKernelLaw" idx y ∈ xT ∧ Cond.static y ∈ xT ∧
  (y.cls ≠ "java/lang/invoke/MethodHandle" ∧ y.cls ≠ "java/lang/invoke/VarHandle" ∧ (parseMethodDescriptor y.desc).map (fun d => d.parameters.length) = some n) ∧ (rF + 1 ≤ 2048 ∧ 8 + (nL + 11) + rL ≤ 84000)
def lAs (xs : Nat → Int32) (i : Int32) (n : Nat) : List Value := (List.range' 1 n).map fun k => Value.int (lV xs i k)
theorem lAs_cat (n k : Nat) : ((List.range' k n).map fun k => Value.int (lV xs i k)).map (fun v => v.category) = List.replicate n 1 := by
  induction n generalizing k with
  | zero => rfl
  | succ n ih => rw [List.range'_succ, List.map_cons, List.map_cons, ih]; rfl
set_option maxHeartbeats 1000000 in
theorem l_arm {P n iW iM : Nat} {h h2 : xH} {yW yM : MethodName} {fC fM : xF} {r r' : xR} {k v : Int32} {f : Nat → Int64} {fs fs1 fs2 : List Value} (F : lFix z p s m c D dA b Ls xs) (ok : armOk P n iW iM) (hin : ∀ j, j < n → vp_in (i + Int32.ofInt ((1 + j : Nat) : Int)) Ls)
    (gW : cGood z l yW (n + 2) iW fC (lAs xs i n)) (gM : mGood z l yM n iM fM) (cM : yM.cls = "CapKernelModel") (gT : mGood z l y_M_thrown 0 80 (f_M_thrown z))
    (a1 : xat h x = some (.inr (0, fs))) (a2 : fC (.ref x :: lAs xs i n) h = some r) (a3 : wRes o r = some r') (a4 : r'.1 = .inl (some (.int k))) (a5 : xat r'.2 M = some (.inr (6, fs1))) (a6 : fM (.ref M :: lAs xs i n) r'.2 = some (.inl (some (.int v)), h2)) (a7 : xat h2 M = some (.inr (6, fs2)))
    (a8 : f_M_thrown z [.ref M] h2 = some (.inl (some (.int k)), h2)) (a9 : xat h2 o = some (.inl (5, 1, .inr (.inl f)))) (a10 : k = 0 → f 0 = v.toInt64) (hb0 : h.1 = s.heap.size) (hc : xn h2 - s.heap.size ≤ 601024) (hs : h2.2.1 ≤ 7293033) (hl : xlv ls 7 (lL b x M o i)) (hA : xAt D dA s locs h H)
    (kk : ∀ ls' H' locs', xlv ls' 7 (lL b x M o i) → xAt D dA s locs' h2 H' → W p l e room_1 s m #[Value.ref b] below meth c H' locs' (xn h2 - s.heap.size) h2.2.1 Q (F0 m 1238 ls' [])) : W p l e room_1 s m #[Value.ref b] below meth c H locs (xn h - s.heap.size) h.2.1 Q (F0 m P ls []) := by
  obtain ⟨o1, o2, o3, o4, o5, o6, o7, o8, o9, o10, o11, o12, o13, o14, o15, o16, o17, o18, o19, o20, o21, o22, o23⟩ := ok
  obtain ⟨cc, nL, rF, rL, en, ph, g1, g2, g3, g4, g5, g6, g7⟩ := gW
  obtain ⟨bM, mM, cFM, cLM, m1, m2, m3, m4, m5, m6, m7, m8⟩ := gM
  obtain ⟨bT, mT, cFT, cLT, t1, t2, t3, t4, t5, t6, t7, t8⟩ := gT
  have mo1 := (g1 x o h r r' fs a1 a2 a3).1
  have mo2 := (m1 _ _ _ a6).1
  have q1 : xn r'.2 ≤ xn h2 := mo2.n
  have q2 : r'.2.2.1 ≤ h2.2.1 := mo2.2.2
  have hb1 : r'.2.1 = s.heap.size := mo1.1.trans hb0
  have hb2 : h2.1 = s.heap.size := mo2.1.trans hb1
  have hlen : (lAs xs i n).length = n := by unfold lAs; rw [List.length_map, List.length_range']
  have hX : p.tables.exec = Jvm.exec := F.1.1
  have hB : c.code = code := F.1.2.1
  have hcd : ∀ pc i, xlook tb_W_law pc = some i → xdec code pc i ∧ xsi i ≤ 7 := fun pc i hi => lcd hi
  have up : ∀ {h' : xH} {locs' : List Loc} {H' : Heap}, h'.1 = s.heap.size → xAt D dA s locs' h' H' → va_S (fun q => s.heap.size ≤ q) s.heap H' locs' := by
    intro h' locs' H' e hA'
    have := hA'.2
    rw [e] at this
    exact this
  refine lv_aload_n hX hB ((lcd o1).1.len (by simp [xlen])) rfl (hl.at (i := 1) (v := .ref x) rfl) ?_
  refine ld_args F hl rfl rfl (up hb0 hA) n 1 (P + 1) [.ref x] o2 hin ?_
  refine lv_aload_n hX hB ((lcd o3).1.len (by simp [xlen])) rfl (hl.at (i := 3) (v := .ref o) rfl) ?_
  have e1 : (Value.ref o :: (((List.range' 1 n).map fun k => Value.int (lV xs i k)).reverse ++ [.ref x])) = (Value.ref x :: (lAs xs i n ++ [.ref o])).reverse ++ [] := by
    unfold lAs
    simp
  rw [e1]
  have p2 : P + 1 + 6 * n + 1 = P + 2 + 6 * n := by omega
  rw [p2]
  refine l_wcall (t := []) F g1 g2 g3 g4 g5 g6 (by rw [hlen]) a1 a2 a3 a4 g7 (by decide) hl.1.1 o4 hb0 (by omega) (by omega) hA (fun H1 locs1 hA1 => ?_)
  have L5 : xst 5 (.int k) (lL b x M o i) = lL b x M o i ++ [(5, .int k)] := rfl
  have L6 : xst 6 (.int v) (lL b x M o i ++ [(5, .int k)]) = lL b x M o i ++ [(5, .int k), (6, .int v)] := rfl
  rw [show P + 2 + 6 * n + 3 = P + 5 + 6 * n by omega]
  refine lv_istore hX hB ((lcd o5).1.len (by simp [xlen])) hl.1 (by decide) rfl (fun ls1 hls1 => ?_)
  have hl1 : xlv ls1 7 (lL b x M o i ++ [(5, .int k)]) := L5 ▸ hl.st rfl hls1
  rw [show P + 5 + 6 * n + 2 = P + 7 + 6 * n by omega]
  refine lv_aload_n hX hB ((lcd o6).1.len (by simp [xlen])) rfl (hl1.at (i := 2) (v := .ref M) rfl) ?_
  rw [show P + 7 + 6 * n + 1 = P + 8 + 6 * n by omega]
  refine ld_args F hl1 rfl rfl (up hb1 hA1) n 1 (P + 8 + 6 * n) [.ref M] o7 hin ?_
  rw [show P + 8 + 6 * n + 6 * n = P + 8 + 12 * n by omega]
  refine l_vcall (As := lAs xs i n) (t := []) (rr := ("CapKernelModel", TC6, 42)) F m1 m2 m3 m4 m5 m6 m7 hlen rfl cM.symm a5 a6 m8 (by decide) hl1.1.1 o8 hb1 (by omega) (by omega) hA1 (fun H2 locs2 hA2 => ?_)
  rw [show P + 8 + 12 * n + 3 = P + 11 + 12 * n by omega]
  refine lv_istore hX hB ((lcd o9).1.len (by simp [xlen])) hl1.1 (by decide) rfl (fun ls2 hls2 => ?_)
  have hl2 : xlv ls2 7 (lL b x M o i ++ [(5, .int k), (6, .int v)]) := L6 ▸ hl1.st rfl hls2
  rw [show P + 11 + 12 * n + 2 = P + 13 + 12 * n by omega]
  refine lv_aload_n hX hB ((lcd o10).1.len (by simp [xlen])) rfl (hl2.at (i := 2) (v := .ref M) rfl) ?_
  rw [show P + 13 + 12 * n + 1 = P + 14 + 12 * n by omega]
  refine l_vcall (As := []) (t := []) (rr := ("CapKernelModel", TC6, 42)) F t1 t2 t3 t4 t5 t6 t7 rfl rfl rfl a7 a8 t8 (by decide) hl2.1.1 o11 hb2 hc hs hA2 (fun H3 locs3 hA3 => ?_)
  rw [show P + 14 + 12 * n + 3 = P + 17 + 12 * n by omega]
  refine lv_iload hX hB ((lcd o12).1.len (by simp [xlen])) (hl2.at (i := 5) (v := .int k) rfl) ?_
  rw [show P + 17 + 12 * n + 2 = P + 19 + 12 * n by omega]
  refine lv_icmp_eq (tgt := P + 24 + 12 * n) hX hB ((lcd o13).1.len (by simp [xlen])) (by omega) (fun _ => ?_) (fun w => absurd rfl w)
  refine lv_iload hX hB ((lcd o14).1.len (by simp [xlen])) (hl2.at (i := 5) (v := .int k) rfl) ?_
  rw [show P + 24 + 12 * n + 2 = P + 26 + 12 * n by omega]
  have hgo : W p l e room_1 s m #[Value.ref b] below meth c H3 locs3 (xn h2 - s.heap.size) h2.2.1 Q (F0 m (P + 41 + 12 * n) ls2 []) := by
    refine lv_goto (tgt := 1238) hX hB ((lcd o23).1.len (by simp [xlen])) (by omega) ?_
    exact kk ls2 H3 locs3 (hl2.sub (fun q hq => List.mem_append_left _ hq)) hA3
  refine lv_if_ne (tgt := P + 41 + 12 * n) hX hB ((lcd o15).1.len (by simp [xlen])) (by omega) (fun _ => hgo) (fun k0 => ?_)
  rw [show P + 26 + 12 * n + 3 = P + 29 + 12 * n by omega]
  refine lv_aload_n hX hB ((lcd o16).1.len (by simp [xlen])) rfl (hl2.at (i := 3) (v := .ref o) rfl) ?_
  rw [show P + 29 + 12 * n + 1 = P + 30 + 12 * n by omega]
  refine lv_iconst (v := 0) hX hB ((lcd o17).1.len (by simp [xlen])) (by decide) ?_
  rw [show P + 30 + 12 * n + 1 = P + 31 + 12 * n by omega]
  have hK2 : xk z D dA h2.1 s := by rw [hb2]; exact F.2.2.2.1
  refine va_lald (i := 0) hX hB (hK2.arr (show xaty[5]? = some .long from rfl)) hA3.1 (o - h2.1) 0 (xws_at dA a9) rfl (by unfold vp_in; decide) ((lcd o18).1.len (by simp [xlen])) ?_
  rw [show P + 31 + 12 * n + 1 = P + 32 + 12 * n by omega]
  refine lv_iload hX hB ((lcd o19).1.len (by simp [xlen])) (hl2.at (i := 6) (v := .int v) rfl) ?_
  rw [show P + 32 + 12 * n + 2 = P + 34 + 12 * n by omega]
  refine lv_i2l hX hB ((lcd o20).1.len (by simp [xlen])) rfl ?_
  rw [show P + 34 + 12 * n + 1 = P + 35 + 12 * n by omega]
  refine W.lcmp hX hB ((lcd o21).1.len (by simp [xlen])) ?_
  rw [show P + 35 + 12 * n + 1 = P + 36 + 12 * n by omega]
  have hcmp : lg_cmp (f (0 : Int32).toNatClampNeg) v.toInt64 = 0 := by
    rw [show (0 : Int32).toNatClampNeg = 0 by decide, a10 k0]
    unfold lg_cmp
    rw [if_neg (by simp), if_pos rfl]
  rw [hcmp]
  exact lv_if_eq (tgt := P + 41 + 12 * n) hX hB ((lcd o22).1.len (by simp [xlen])) (by omega) (fun _ => hgo) (fun w => absurd rfl w)
end LA
