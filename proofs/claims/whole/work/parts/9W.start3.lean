/-! THE LAW'S BEGINNING, 3: from the entry to the loop. -/
section LJ
variable {z : xzs} {p : Program} {l : Launch} {e : Env} {s : State} {m : MethodId} {below : List Frame} {meth : Method} {c : Code} {Q : State → Prop} {D : va_G} {dA : Nat → ClassId} {b Ls : Nat} {xs : Nat → Int32}
theorem gn_law8 : xGn "CapKernelLaw" xT 8 (0, [.null, .null, .null, .int 0, .int 0, .int 0, .null]) := ⟨"CapKernel", TC0, 7, tC0, rfl, inC0, okC0, by decide +kernel, by decide +kernel, by decide +kernel, by decide +kernel, rfl⟩
theorem gn_law71 : xGn "CapKernelLaw" xT 71 (6, mF0) := ⟨"CapKernelModel", TC6, 42, tC6, rfl, inC6, okC6, by decide +kernel, by decide +kernel, by decide +kernel, by decide +kernel, rfl⟩
theorem wl_in : (Cond.initialized y_K_new.cls ∈ xT ∧ Cond.methodLink "CapKernelLaw" 70 y_K_new ∈ xT ∧ Cond.instanceMethod y_K_new ∈ xT) ∧ (Cond.initialized y_M_new.cls ∈ xT ∧ Cond.methodLink "CapKernelLaw" 73 y_M_new ∈ xT ∧ Cond.instanceMethod y_M_new ∈ xT) ∧ Cond.arrayClass .long ∈ xT := by decide +kernel
theorem npl_K : (y_K_new.cls ≠ "java/lang/invoke/MethodHandle" ∧ y_K_new.cls ≠ "java/lang/invoke/VarHandle" ∧ (parseMethodDescriptor y_K_new.desc).map (fun d => d.parameters.length) = some 0) := by decide +kernel
theorem npl_M : (y_M_new.cls ≠ "java/lang/invoke/MethodHandle" ∧ y_M_new.cls ≠ "java/lang/invoke/VarHandle" ∧ (parseMethodDescriptor y_M_new.desc).map (fun d => d.parameters.length) = some 0) := by decide +kernel
theorem tl_0 : xlook tb_W_law 0 = some (.new 8) ∧ xlook tb_W_law 3 = some .dup ∧ xlook tb_W_law 4 = some (.invokespecial 70) ∧ xlook tb_W_law 7 = some (.astore_n 1) ∧ xlook tb_W_law 8 = some (.new 71) ∧ xlook tb_W_law 11 = some .dup ∧ xlook tb_W_law 12 = some (.invokespecial 73) ∧ xlook tb_W_law 15 = some (.astore_n 2) ∧ xlook tb_W_law 16 = some (.iconst 1) ∧ xlook tb_W_law 17 = some (.newarray .long) ∧ xlook tb_W_law 19 = some (.astore_n 3) ∧ xlook tb_W_law 20 = some (.iconst 0) ∧ xlook tb_W_law 21 = some (.istore 4) := ⟨rfl, rfl, rfl, rfl, rfl, rfl, rfl, rfl, rfl, rfl, rfl, rfl, rfl⟩
theorem l_store {k : Nat} {k4 : Fin 4} {pc v : Nat} {L : xL} {ls : Array Slot} {H : Heap} {locs : List Loc} {cells slots : Nat} {t : List Value} (hx : p.tables.exec = Jvm.exec) (hb : c.code = code) (hd : xlook tb_W_law pc = some (.astore_n k4)) (hk : k4.val = k) (hl : xlv ls 7 L) (kk : ∀ ls', xlv ls' 7 (xst k (.ref v) L) → W p l e room_1 s m #[Value.ref b] below meth c H locs cells slots Q (F0 m (pc + 1) ls' t)) : W p l e room_1 s m #[Value.ref b] below meth c H locs cells slots Q (F0 m pc ls (.ref v :: t)) := by
  subst hk
  exact lv_astore_n hx hb ((lcd hd).1.len (by simp [xlen])) rfl hl.1 (lcd hd).2 rfl (fun ls' h' => kk ls' (hl.st rfl h'))
set_option maxRecDepth 8192 in
theorem eK3_len (z : xzs) (b : Nat) : (eK3 z b).length = 47 := rfl
set_option maxHeartbeats 2000000 in
/-- from the entry to the loop -/
theorem l_start (hl0 : l.stackTraces = false) (F : lFix z p s m c D dA b Ls xs) (hz : z.1 < s.heap.size) (hL : Ls ≤ 2560) (kEnd : ∀ (h : xH) (ls : Array Slot) (H : Heap) (locs : List Loc), h.1 = s.heap.size → xn h - s.heap.size ≤ 601024 → h.2.1 ≤ 7293033 → xAt D dA s locs h H → W p l e room_1 s m #[Value.ref b] below meth c H locs (xn h - s.heap.size) h.2.1 Q (F0 m 1244 ls [])) :
    W p l e room_1 s m #[Value.ref b] below meth c s.heap [] 0 0 Q (entryFrame m ([Value.ref b] : List Value).toArray 7) := by
  have hl := lv_entry ([Value.ref b] : List Value) (n := 7) (Nat.le_of_ble_eq_true rfl)
  rw [lg_entry_eq]
  generalize (lg_sl ([Value.ref b] : List Value) ++ List.replicate (7 - (lg_sl ([Value.ref b] : List Value)).length) Slot.unset).toArray = ls at hl ⊢
  have hl : xlv ls 7 [(0, .ref b)] := ⟨hl, fun q hq => by cases List.mem_singleton.mp hq; rfl⟩
  obtain ⟨t0, t3, t4, t7, t8, t11, t12, t15, t16, t17, t19, t20, t21⟩ := tl_0
  obtain ⟨⟨k1, k2, k3⟩, ⟨k4, k5, k6⟩, k7⟩ := wl_in
  obtain ⟨hx, hb, hml, hown, hts⟩ := F.1
  have dd : ∀ {pc : Nat} {i : xI}, xlook tb_W_law pc = some i → ¬ xlen i = 0 → decode code pc = .ok (i, xlen i) := fun h1 h2 => (lcd h1).1.len h2
  generalize hB : s.heap.size = B at *
  have hA0 : xAt D dA s [] (B, 0, []) s.heap := ⟨fun k q hq => (by cases hq), va_S.rf⟩
  refine xW_ix (cells' := xn ((B, 0, []) : xH) - s.heap.size) (slots' := ((B, 0, []) : xH).2.1) (by rw [hB]; show B + 0 - B = 0; omega) rfl ?_
  refine l_new F gn_law8 t0 hB.symm (by rw [hB]; show B + 0 + 1 - B ≤ 601024; omega) (Nat.le_of_ble_eq_true rfl) hA0 (fun H1 locs1 hA1 => ?_)
  refine lv_dup (va := .ref _) hx hb (dd t3 (by simp [xlen])) rfl ?_
  refine l_icall (h := (B, 7, [eK])) (h' := (B, 395, eK3 z B)) (b' := B) F (ct_K_new z l hl0) wd_82 k1 k2 k3 rfl npl_K (t_K_new hz) (by decide) (Nat.le_of_ble_eq_true rfl) hl.1.1 t4 hB.symm (by rw [hB]; show B + 47 - B ≤ 601024; omega) (Nat.le_of_ble_eq_true rfl) hA1 (fun H2 locs2 hA2 => ?_)
  refine l_store (k := 1) hx hb t7 rfl hl (fun ls1 hl1 => ?_)
  have hA3 : xAt D dA s locs2 (B, 395, eP z B) H2 := xAt_eq (L := eK3 z B) (by rw [eP_len, eK3_len]) (fun i hi => eP_eq z B i (by rw [eK3_len] at hi; exact hi)) hA2
  have e47 : xn ((B, 395, eP z B) : xH) = B + 47 := by
    show B + (eP z B).length = _
    rw [eP_len]
  have f47 : xn ((B, 395, eK3 z B) : xH) = B + 47 := by
    show B + (eK3 z B).length = _
    rw [eK3_len]
  refine xW_ix (cells' := xn ((B, 395, eP z B) : xH) - s.heap.size) (slots' := 395) (by rw [e47, f47]) rfl ?_
  refine l_new (h := (B, 395, eP z B)) F gn_law71 t8 hB.symm (by rw [hB]; show B + 47 + 1 - B ≤ 601024; omega) (Nat.le_of_ble_eq_true rfl) hA3 (fun H4 locs4 hA4 => ?_)
  refine lv_dup (va := .ref _) hx hb (dd t11 (by simp [xlen])) rfl ?_
  have hn0 := hM0_n z B
  refine l_icall (h := nH B 437 (eP z B) mF0 []) (h' := hM0 z B) (b' := B + (eP z B).length) F (ct_M_new z l hl0) wd_879 k4 k5 k6 rfl npl_M (t_M_new B 437 (eP z B)) (by decide) (Nat.le_of_ble_eq_true rfl) hl1.1.1 t12 hB.symm (by rw [hn0, hB]; omega) (Nat.le_of_ble_eq_true rfl) hA4 (fun H5 locs5 hA5 => ?_)
  refine l_store (k := 2) hx hb t15 rfl hl1 (fun ls2 hl2 => ?_)
  refine lv_iconst hx hb (dd t16 (by simp [xlen])) rfl ?_
  refine l_newJ (h := hM0 z B) F k7 t17 hB.symm (by rw [hn0, hB]; omega) (Nat.le_of_ble_eq_true rfl) hA5 (fun H6 locs6 hA6 => ?_)
  refine l_store (k := 3) hx hb t19 rfl hl2 (fun ls3 hl3 => ?_)
  refine lv_iconst hx hb (dd t20 (by simp [xlen])) rfl ?_
  refine lv_istore hx hb (dd t21 (by simp [xlen])) hl3.1 (lcd t21).2 rfl (fun ls4 h4 => ?_)
  have hl4 := hl3.st (v := .int 0) rfl h4
  rw [hn0, e47] at hl4
  exact l_loop (x := B) (M := B + 47) (o := B + 80) hl0 F hL (hB ▸ kEnd) Ls 0 (hO0 z B) ls4 H6 locs6 (by omega) (by omega) (lInv_0 hz) hB.symm hl4 hA6
end LJ
