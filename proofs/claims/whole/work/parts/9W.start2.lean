/-! THE LAW'S BEGINNING, 2: calls of constructors, new cells. -/
section LI
variable {z : xzs} {p : Program} {l : Launch} {e : Env} {s : State} {m : MethodId} {below : List Frame} {meth : Method} {c : Code} {H : Heap} {locs : List Loc} {Q : State → Prop} {ls : Array Slot} {D : va_G} {dA : Nat → ClassId} {b Ls : Nat} {xs : Nat → Int32}
/-- a constructor's call in the law -/
theorem l_icall {h h' : xH} {y : MethodName} {bytes : ByteArray} {maxL idx cF cL b' pc : Nat} {f : xF} {t : List Value} (F : lFix z p s m c D dA b Ls xs)
    (hct : xCt z l y (Cond.code y bytes maxL none :: xT) cF cL f) (w1 : Cond.code y bytes maxL none ∈ xT) (w2 : Cond.initialized y.cls ∈ xT) (w3 : Cond.methodLink "CapKernelLaw" idx y ∈ xT) (w4 : Cond.instanceMethod y ∈ xT)
    (hnm : y.name = "<init>") (hy : y.cls ≠ "java/lang/invoke/MethodHandle" ∧ y.cls ≠ "java/lang/invoke/VarHandle" ∧ (parseMethodDescriptor y.desc).map (fun d => d.parameters.length) = some 0)
    (hf : f [.ref b'] h = some (.inl none, h')) (hR : cF + 1 ≤ 2048 ∧ 8 + (maxL + 11) + cL ≤ 84000) (hcat : (t.map fun v => v.category).sum ≤ 8) (hls : ls.size = 7) (hd : xlook tb_W_law pc = some (.invokespecial idx)) (hb0 : h.1 = s.heap.size) (hc : xn h' - s.heap.size ≤ 601024) (hs : h'.2.1 ≤ 7293033) (hA : xAt D dA s locs h H)
    (kk : ∀ H' locs', xAt D dA s locs' h' H' → W p l e room_1 s m #[Value.ref b] below meth c H' locs' (xn h' - s.heap.size) h'.2.1 Q (F0 m (pc + 3) ls t)) : W p l e room_1 s m #[Value.ref b] below meth c H locs (xn h - s.heap.size) h.2.1 Q (F0 m pc ls (.ref b' :: t)) := by
  obtain ⟨S, hX, hbl, hK, -⟩ := F
  have hts := S.2.2.2.2
  obtain ⟨hmo, hctD⟩ := hct _ _ _ hf
  obtain ⟨hM, -⟩ := hctD D dA
  have hn1 : xn h ≤ xn h' := hmo.n
  have hs1 : h.2.1 ≤ h'.2.1 := hmo.2.2
  have hK' : xk z D dA h.1 s := by rw [hb0]; exact hK
  have hb1 : h.1 ≤ s.heap.size := Nat.le_of_eq hb0
  have hb2 : s.heap.size ≤ xn h := by rw [← hb0]; unfold xn; omega
  have cw := cwI (R := room_1) (rm := xRm cF cL h h') (own := "CapKernelLaw") (index := idx) 0 hts (xGood_inT w1) rfl rfl rfl (hts _ w2) (hts _ w3) (hts _ w4) hnm hy hR
  refine xW_sized fun hz => ?_
  refine x_back (r := (.inl none, h')) (va_runI (As := []) (rest := t) S (hM _ rfl) cw ⟨xPc_blind, x_pre hK' hA hb1 (x_hsize hA hb1 hb2 hz)⟩ rfl rfl hls rfl (lv_room hcat) ((lcd hd).1.len (by simp [xlen])) ⟨?_, ?_⟩) rfl hb1 hmo.1 hA (fun H' locs' hA' => ?_)
  · show xn h - s.heap.size + (xn h' - xn h) ≤ 601024
    omega
  · show h.2.1 + (h'.2.1 - h.2.1) ≤ 7293033
    omega
  · exact xW_ix (show xn h' - s.heap.size = xn h - s.heap.size + (xn h' - xn h) by omega) (show h'.2.1 = h.2.1 + (h'.2.1 - h.2.1) by omega) (kk H' locs' hA')
/-- a new object in the law -/
theorem l_new {h : xH} {idx pc : Nat} {f : Nat × List Value} {t : List Value} (F : lFix z p s m c D dA b Ls xs) (hG : xGn "CapKernelLaw" xT idx f) (hd : xlook tb_W_law pc = some (.new idx)) (hb0 : h.1 = s.heap.size) (hc : xn h + 1 - s.heap.size ≤ 601024) (hs : h.2.1 + f.2.length ≤ 7293033) (hA : xAt D dA s locs h H)
    (kk : ∀ H' locs', xAt D dA s locs' (xpush h f.2.length (.inr f)) H' → W p l e room_1 s m #[Value.ref b] below meth c H' locs' (xn (xpush h f.2.length (.inr f)) - s.heap.size) (xpush h f.2.length (.inr f)).2.1 Q (F0 m (pc + 3) ls (.ref (xn h) :: t))) : W p l e room_1 s m #[Value.ref b] below meth c H locs (xn h - s.heap.size) h.2.1 Q (F0 m pc ls t) := by
  obtain ⟨⟨hx, hb, hml, hown, hts⟩, hX, hbl, hK, -⟩ := F
  have hK' : xk z D dA h.1 s := by rw [hb0]; exact hK
  have hs' : xmem ((fun _ => none, fun _ => none, fun _ => none, xlook [(idx, f)], fun _ => none, fun _ => none, fun _ => none, none) : xK) (.new idx) pc [] t h = some (.inl (pc + 3, [], .ref (xn h) :: t, xpush h f.2.length (.inr f))) := by
    unfold xmem
    show (xlook [(idx, f)] idx).bind _ = _
    have : xlook [(idx, f)] idx = some f := by
      unfold xlook
      rw [show Nat.beq idx idx = true from Nat.beq_refl idx]
    rw [this]
    rfl
  obtain ⟨pc', st', h', e1, hm, step⟩ := xo_mem (p := p) (l := l) (e := e) (R := room_1) (s := s) (m := m) (args := #[Value.ref b]) (below := below) (meth := meth) (c := c) (H := H) (locs := locs) (s0 := 0) (Q := Q) (ls := ls) (ini := False) (Ts := xT) (own := "CapKernelLaw") hx hb (lcd hd).1 hown hts False.elim hK' (fun _ _ w => by cases w) (fun i g w => by
    have := xlook_mem w
    cases List.mem_singleton.mp this
    exact hG) (fun _ _ w => by cases w) (fun _ _ w => by cases w) (fun w => by cases w) (fun w => by cases w) xaty0 xaty1 hs'
  cases e1
  have hb2 : s.heap.size ≤ xn h := by rw [← hb0]; unfold xn; omega
  have r1 : room_1.cells = 601024 := rfl
  have r2 : room_1.slots = 7293033 := rfl
  refine step (Nat.le_of_eq hb0) hb2 (Nat.zero_le _) (by rw [xpush_n, r1]; exact hc) (by rw [r2]; exact hs) hA (fun H' locs' hA' => ?_)
  exact kk H' locs' hA'
/-- the law's own array -/
theorem l_newJ {h : xH} {pc : Nat} {t : List Value} (F : lFix z p s m c D dA b Ls xs) (hw : Cond.arrayClass .long ∈ xT) (hd : xlook tb_W_law pc = some (.newarray .long)) (hb0 : h.1 = s.heap.size) (hc : xn h + 1 - s.heap.size ≤ 601024) (hs : h.2.1 + 1 ≤ 7293033) (hA : xAt D dA s locs h H)
    (kk : ∀ H' locs', xAt D dA s locs' (xpush h 1 (.inl (5, 1, .inr (.inl (fun _ => 0))))) H' → W p l e room_1 s m #[Value.ref b] below meth c H' locs' (xn (xpush h 1 (.inl (5, 1, .inr (.inl (fun _ => 0))))) - s.heap.size) (xpush h 1 (.inl (5, 1, .inr (.inl (fun _ => 0))))).2.1 Q (F0 m (pc + 2) ls (.ref (xn h) :: t))) : W p l e room_1 s m #[Value.ref b] below meth c H locs (xn h - s.heap.size) h.2.1 Q (F0 m pc ls (.int 1 :: t)) := by
  obtain ⟨⟨hx, hb, hml, hown, hts⟩, hX, hbl, hK0, -⟩ := F
  have hK : xk z D dA h.1 s := by rw [hb0]; exact hK0
  have hb2 : s.heap.size ≤ xn h := by rw [← hb0]; unfold xn; omega
  have r1 : room_1.cells = 601024 := rfl
  have r2 : room_1.slots = 7293033 := rfl
  refine va_newa (atype := .long) (ty := .long) (a0 := (1, .inr (.inl (fun _ => 0)))) hx hb (hts _ hw) rfl hK.1 hA.1 (xws_D dA h) hA.2 (fun q hq => by show h.1 ≤ q; omega) (fun cA => rfl) (by decide) rfl (by decide) (by rw [r1]; omega) (by rw [r2]; exact hs) ((lcd hd).1.len (by simp [xlen])) (fun q cA H1 hK1 hP1 hD1 hS1 => ?_)
  have hcA := xcA_int hK (k := 5) rfl hK1
  subst hcA
  refine xW_sized fun hz => ?_
  have hq1 : h.1 ≤ q := hD1.2 (xws dA h).length (q, _) (by rw [List.getElem?_append_right (Nat.le_refl _), Nat.sub_self]; rfl)
  have hq2 := xws_fresh hD1 hq1
  have hq3 : q < H1.size := (hP1 (xws dA h).length (q, _) (by rw [List.getElem?_append_right (Nat.le_refl _), Nat.sub_self]; rfl)).lt
  have hq : q = xn h := by omega
  subst hq
  refine xW_ix (by rw [xpush_n]; omega) (by show h.2.1 + 1 = _; rfl) (kk H1 locs ⟨?_, hS1⟩)
  rw [← xws_push dA h]
  exact hP1
end LI
