/-! THE LAW'S WALK: loads of the script, calls, one arm of its switch. -/
section LW
variable {z : xzs} {p : Program} {l : Launch} {e : Env} {s : State} {m : MethodId} {below : List Frame} {meth : Method} {c : Code} {H : Heap} {locs : List Loc} {Q : State → Prop} {D : va_G} {dA : Nat → ClassId} {b Ls : Nat} {xs : Nat → Int32} {ls : Array Slot}
/-- what stays the same along the law's walk -/
def lFix (z : xzs) (p : Program) (s : State) (m : MethodId) (c : Code) (D : va_G) (dA : Nat → ClassId) (b Ls : Nat) (xs : Nat → Int32) : Prop :=
  CallFix p m c code 7 s #[Value.ref b] xT "CapKernelLaw" ∧ va_X b Ls xs s s.heap ∧ b < s.heap.size ∧ xk z D dA s.heap.size s ∧ xNC s
theorem lcd {pc : Nat} {i : xI} (h : xlook tb_W_law pc = some i) : xdec code pc i ∧ xsi i ≤ 7 := xchk_ok ck_W_law h
def ldOk (pc k : Nat) : Prop := xlook tb_W_law pc = some (.aload_n 0) ∧ xlook tb_W_law (pc + 1) = some (.iload 4) ∧ xlook tb_W_law (pc + 3) = some (.iconst (k : Int)) ∧ xlook tb_W_law (pc + 4) = some .iadd ∧ xlook tb_W_law (pc + 5) = some .iaload
def lV (xs : Nat → Int32) (i : Int32) (k : Nat) : Int32 := xs (i + Int32.ofInt (k : Int)).toNatClampNeg
theorem ld_arg {cells slots : Nat} {k pc : Nat} {i : Int32} {L : xL} {st : List Value} (F : lFix z p s m c D dA b Ls xs) (hk : ldOk pc k) (hin : vp_in (i + Int32.ofInt (k : Int)) Ls) (hl : xlv ls 7 L) (h0 : xld 0 L = some (.ref b)) (h4 : xld 4 L = some (.int i)) (hS : va_S (fun q => s.heap.size ≤ q) s.heap H locs)
    (kk : W p l e room_1 s m #[Value.ref b] below meth c H locs cells slots Q (F0 m (pc + 6) ls (.int (lV xs i k) :: st))) : W p l e room_1 s m #[Value.ref b] below meth c H locs cells slots Q (F0 m pc ls st) := by
  obtain ⟨⟨hx, hb, hml, hown, hts⟩, hX, hbl, -, -⟩ := F
  obtain ⟨d0, d1, d2, d3, d4⟩ := hk
  refine lv_aload_n hx hb ((lcd d0).1.len (by simp [xlen])) rfl (hl.at h0) ?_
  refine lv_iload hx hb ((lcd d1).1.len (by simp [xlen])) (hl.at h4) ?_
  refine lv_iconst hx hb ((lcd d2).1.len (by simp [xlen])) rfl ?_
  refine lv_iadd hx hb ((lcd d3).1.len (by simp [xlen])) ?_
  exact va_sld hx hb hX hbl (fun w => Nat.not_le.mpr hbl w) hS hin ((lcd d4).1.len (by simp [xlen])) kk
theorem ld_args {cells slots : Nat} {i : Int32} {L : xL} (F : lFix z p s m c D dA b Ls xs) (hl : xlv ls 7 L) (h0 : xld 0 L = some (.ref b)) (h4 : xld 4 L = some (.int i)) (hS : va_S (fun q => s.heap.size ≤ q) s.heap H locs) : ∀ (n k pc : Nat) (st : List Value), (∀ j, j < n → ldOk (pc + 6 * j) (k + j)) → (∀ j, j < n → vp_in (i + Int32.ofInt ((k + j : Nat) : Int)) Ls) →
    W p l e room_1 s m #[Value.ref b] below meth c H locs cells slots Q (F0 m (pc + 6 * n) ls (((List.range' k n).map fun k => Value.int (lV xs i k)).reverse ++ st)) → W p l e room_1 s m #[Value.ref b] below meth c H locs cells slots Q (F0 m pc ls st)
  | 0, k, pc, st, _, _, kk => kk
  | n + 1, k, pc, st, hk, hin, kk => by
    refine ld_arg F (hk 0 (by omega)) (hin 0 (by omega)) hl h0 h4 hS ?_
    refine ld_args F hl h0 h4 hS n (k + 1) (pc + 6) _ (fun j hj => ?_) (fun j hj => ?_) ?_
    · have := hk (j + 1) (by omega)
      rw [show pc + 6 * (j + 1) = pc + 6 + 6 * j by omega, show k + (j + 1) = k + 1 + j by omega] at this
      exact this
    · have := hin (j + 1) (by omega)
      rw [show k + (j + 1) = k + 1 + j by omega] at this
      exact this
    · rw [List.range'_succ, List.map_cons, List.reverse_cons, List.append_assoc, show pc + 6 * (n + 1) = pc + 6 + 6 * n by omega] at kk
      exact kk
theorem xGood_inT {c1 : Cond} (h : c1 ∈ xT) : GoodIn xT (c1 :: xT) := by
  intro w hw
  rcases List.mem_cons.mp hw with rfl | hw
  · exact ⟨h, xT_good h⟩
  · exact ⟨hw, xT_good hw⟩
/-- a call of a method of an object that the cells hold -/
theorem l_vcall {h h' : xH} {y : MethodName} {bytes : ByteArray} {maxL n idx cF cL b' ci pc : Nat} {f : xF} {As t fs : List Value} {rr : vw_C} {v : Int32} (F : lFix z p s m c D dA b Ls xs)
    (hct : xCt z l y (Cond.code y bytes maxL (some .int) :: xT) cF cL f) (w1 : Cond.code y bytes maxL (some .int) ∈ xT) (w2 : Cond.initialized y.cls ∈ xT) (w3 : Cond.methodLink "CapKernelLaw" idx y ∈ xT) (w4 : Cond.instanceMethod y ∈ xT) (w5 : Cond.selects y.cls y y ∈ xT)
    (hy : y.cls ≠ "java/lang/invoke/MethodHandle" ∧ y.cls ≠ "java/lang/invoke/VarHandle" ∧ (parseMethodDescriptor y.desc).map (fun d => d.parameters.length) = some n) (hn : As.length = n) (hvw : vwCl[ci]? = some rr) (hrr : rr.1 = y.cls) (hat : xat h b' = some (.inr (ci, fs)))
    (hf : f (.ref b' :: As) h = some (.inl (some (.int v)), h')) (hR : cF + 1 ≤ 2048 ∧ 8 + (maxL + 11) + cL ≤ 84000) (hcat : (t.map fun v => v.category).sum ≤ 8) (hls : ls.size = 7) (hd : xlook tb_W_law pc = some (.invokevirtual idx)) (hb0 : h.1 = s.heap.size) (hc : xn h' - s.heap.size ≤ 601024) (hs : h'.2.1 ≤ 7293033) (hA : xAt D dA s locs h H)
    (kk : ∀ H' locs', xAt D dA s locs' h' H' → W p l e room_1 s m #[Value.ref b] below meth c H' locs' (xn h' - s.heap.size) h'.2.1 Q (F0 m (pc + 3) ls (.int v :: t))) : W p l e room_1 s m #[Value.ref b] below meth c H locs (xn h - s.heap.size) h.2.1 Q (F0 m pc ls (As.reverse ++ .ref b' :: t)) := by
  obtain ⟨S, hX, hbl, hK, -⟩ := F
  have hts := S.2.2.2.2
  obtain ⟨hmo, hctD⟩ := hct _ _ _ hf
  obtain ⟨hM, -⟩ := hctD D dA
  have hn1 : xn h ≤ xn h' := hmo.n
  have hs1 : h.2.1 ≤ h'.2.1 := hmo.2.2
  have hK' : xk z D dA h.1 s := by rw [hb0]; exact hK
  have hb1 : h.1 ≤ s.heap.size := Nat.le_of_eq hb0
  have hb2 : s.heap.size ≤ xn h := by rw [← hb0]; unfold xn; omega
  have cb := callB_of (R := room_1) (rm := xRm cF cL h h') (own := "CapKernelLaw") (index := idx) n hts (xGood_inT w1) rfl rfl rfl (hts _ w2) (hts _ w3) hy hR
  have hrecv := va_recv hK'.1 hA.1 hvw (xws_at dA hat)
  rw [hrr] at hrecv
  refine xW_sized fun hz => ?_
  refine x_back (r := (.inl (some (.int v)), h')) (va_runV (As := As) (rest := t) S (hM _ rfl) ⟨cb, hts _ w4, hts _ w5⟩ ⟨xPc_blind, hrecv, x_pre hK' hA hb1 (x_hsize hA hb1 hb2 hz)⟩ rfl hn hls rfl (lv_room hcat) ((lcd hd).1.len (by simp [xlen])) ⟨?_, ?_⟩) rfl hb1 hmo.1 hA (fun H' locs' hA' => ?_)
  · show xn h - s.heap.size + (xn h' - xn h) ≤ 601024
    omega
  · show h.2.1 + (h'.2.1 - h.2.1) ≤ 7293033
    have hs1 : h.2.1 ≤ h'.2.1 := hs1
    omega
  · have hs1 : h.2.1 ≤ h'.2.1 := hs1
    exact xW_ix (show xn h' - s.heap.size = xn h - s.heap.size + (xn h' - xn h) by omega) (show h'.2.1 = h.2.1 + (h'.2.1 - h.2.1) by omega) (kk H' locs' hA')
/-- a call of a method that catches -/
theorem l_wcall {h : xH} {y : MethodName} {cc : ByteArray} {nL n idx rF rL x o pc en : Nat} {ph : Nat → Nat} {fk : xF} {As t fs : List Value} {r r' : xR} {k : Int32} (F : lFix z p s m c D dA b Ls xs)
    (hg : wGood z l y (Cond.codeWith y cc nL (some .int) (wHh en ph) :: xT) rF rL fk As) (w1 : Cond.codeWith y cc nL (some .int) (wHh en ph) ∈ xT) (w2 : Cond.initialized y.cls ∈ xT) (w3 : Cond.methodLink "CapKernelLaw" idx y ∈ xT) (w4 : Cond.static y ∈ xT)
    (hy : y.cls ≠ "java/lang/invoke/MethodHandle" ∧ y.cls ≠ "java/lang/invoke/VarHandle" ∧ (parseMethodDescriptor y.desc).map (fun d => d.parameters.length) = some n) (hn : As.length + 2 = n) (hat : xat h x = some (.inr (0, fs))) (hf : fk (.ref x :: As) h = some r) (hr : wRes o r = some r') (hk : r'.1 = .inl (some (.int k)))
    (hR : rF + 1 ≤ 2048 ∧ 8 + (nL + 11) + rL ≤ 84000) (hcat : (t.map fun v => v.category).sum ≤ 8) (hls : ls.size = 7) (hd : xlook tb_W_law pc = some (.invokestatic idx)) (hb0 : h.1 = s.heap.size) (hc : xn r'.2 - s.heap.size ≤ 601024) (hs : r'.2.2.1 ≤ 7293033) (hA : xAt D dA s locs h H)
    (kk : ∀ H' locs', xAt D dA s locs' r'.2 H' → W p l e room_1 s m #[Value.ref b] below meth c H' locs' (xn r'.2 - s.heap.size) r'.2.2.1 Q (F0 m (pc + 3) ls (.int k :: t))) : W p l e room_1 s m #[Value.ref b] below meth c H locs (xn h - s.heap.size) h.2.1 Q (F0 m pc ls ((Value.ref x :: (As ++ [.ref o])).reverse ++ t)) := by
  obtain ⟨S, hX, hbl, hK, hNC⟩ := F
  have hts := S.2.2.2.2
  obtain ⟨hmo, -, hM⟩ := hg x o h r r' fs hat hf hr
  have hn1 := hmo.n
  have hs1 : h.2.1 ≤ r'.2.2.1 := hmo.2.2
  have hK' : xk z D dA h.1 s := by rw [hb0]; exact hK
  have hb1 : h.1 ≤ s.heap.size := Nat.le_of_eq hb0
  have hb2 : s.heap.size ≤ xn h := by rw [← hb0]; unfold xn; omega
  refine xW_sized fun hz => ?_
  refine x_back (xrunSW (R := room_1) (As := Value.ref x :: (As ++ [.ref o])) (rest := t) S (hM D dA) (xGood_inT w1) rfl rfl rfl w2 w3 w4 hy hR ⟨xPcN_blind, fun U hU hW => ⟨x_pre hK' hA hb1 (x_hsize hA hb1 hb2 hz) U hU hW, hNC.moved hW.alike⟩⟩ rfl (by rw [← hn]; simp) hls rfl (lv_room hcat) ((lcd hd).1.len (by simp [xlen])) ⟨?_, ?_⟩) hk hb1 hmo.1 hA (fun H' locs' hA' => ?_)
  · show xn h - s.heap.size + (xn r'.2 - xn h) ≤ 601024
    omega
  · show h.2.1 + (r'.2.2.1 - h.2.1) ≤ 7293033
    omega
  · exact xW_ix (show xn r'.2 - s.heap.size = xn h - s.heap.size + (xn r'.2 - xn h) by omega) (show r'.2.2.1 = h.2.1 + (r'.2.2.1 - h.2.1) by omega) (kk H' locs' hA')
end LW
