noncomputable def D_K_nextStamp_0 (z : xzs) (a0 : Nat) (h : xH) : Option xR :=
  (rdI h a0 0 5).bind fun x1 =>
  (xwr h a0 0 5 (.int (x1 + (Int32.ofInt 1)))).bind fun h2 =>
  (rdI h2 a0 0 5).bind fun x3 =>
  some (.inl (some (.int x3)), h2)
theorem E_K_nextStamp (z : xzs) (a0 : Nat) (h : xH) : xle (D_K_nextStamp_0 z a0 h) (xfun (K_K_nextStamp z) 1 [.ref a0] h) := by
  unfold D_K_nextStamp_0
  refine xle_entry (Nat.le_of_ble_eq_true rfl) (xal_c (xca_a _) (rfl)) ?_
  show xle _ (xev (K_K_nextStamp z) (0, [(0, .ref a0)], [], h))
  refine xle_next (i := .aload_n 0) (x' := (1, [(0, .ref a0)], [.ref a0], h)) rfl rfl rfl ?_
  refine xle_next (i := .dup) (x' := (2, [(0, .ref a0)], [.ref a0, .ref a0], h)) rfl rfl rfl ?_
  refine xle_getI (f := (0, 5, .int, 1)) rfl rfl rfl (fun x1 => ?_)
  refine xle_next (i := .iconst 1) (x' := (6, [(0, .ref a0)], [.int (Int32.ofInt 1), .int x1, .ref a0], h)) rfl rfl rfl ?_
  refine xle_next (i := .iadd) (x' := (7, [(0, .ref a0)], [.int (x1 + (Int32.ofInt 1)), .ref a0], h)) rfl rfl rfl ?_
  refine xle_put (v := .int (x1 + (Int32.ofInt 1))) (f := (0, 5, .int, 1)) rfl rfl rfl ⟨by decide, rfl, rfl⟩ (fun h2 => ?_)
  refine xle_next (i := .aload_n 0) (x' := (11, [(0, .ref a0)], [.ref a0], h2)) rfl rfl rfl ?_
  refine xle_getI (f := (0, 5, .int, 1)) rfl rfl rfl (fun x3 => ?_)
  exact xle_end (i := .ireturn) rfl rfl rfl
noncomputable def D_K_put_0 (z : xzs) (a0 : Nat) (p1 : Option Nat) (p2 : Option Nat) (p3 : Int32) (h : xH) : Option xR :=
  p1.bind fun a1 =>
  (xisO h a1 1).bind fun _ => xclV (f_C_enterSlot z [.ref a1, va_rf p2, .int p3] h) fun h2 =>
  (rdR h2 a1 1 0).bind fun r3 =>
  r3.bind fun a4 =>
  (rdI h2 a4 5 7).bind fun x5 =>
  (xwr h2 a4 5 7 (.int (x5 + (Int32.ofInt 1)))).bind fun h6 =>
  (rdR h6 a0 0 6).bind fun r7 =>
  r7.bind fun a8 =>
  (xisO h6 a8 7).bind fun _ => xclI (f_A_add z [.ref a8, .ref a1] h6) fun x10 h9 =>
  some (.inl none, h9)
theorem E_K_put (z : xzs) (a0 : Nat) (p1 : Option Nat) (p2 : Option Nat) (p3 : Int32) (h : xH) : xle (D_K_put_0 z a0 p1 p2 p3 h) (xfun (K_K_put z) 4 [.ref a0, va_rf p1, va_rf p2, .int p3] h) := by
  unfold D_K_put_0
  refine xle_entry (Nat.le_of_ble_eq_true rfl) (xal_c (xca_a _) (xal_c (xca_r _) (xal_c (xca_r _) (xal_c (xca_i _) (rfl))))) ?_
  show xle _ (xev (K_K_put z) (0, [(0, .ref a0), (1, va_rf p1), (2, va_rf p2), (3, .int p3)], [], h))
  refine xle_aldn (k := 1) (r := p1) rfl rfl rfl ?_
  refine xle_aldn (k := 2) (r := p2) rfl rfl rfl ?_
  refine xle_next (i := .iload_n 3) (x' := (3, [(0, .ref a0), (1, va_rf p1), (2, va_rf p2), (3, .int p3)], [.int p3, va_rf p2, va_rf p1], h)) rfl rfl rfl ?_
  refine xle_some (fun r_ => (3, [(0, .ref a0), (1, va_rf r_), (2, va_rf p2), (3, .int p3)], [.int p3, va_rf p2, va_rf r_], h)) (fun a1 => ?_)
  refine xle_isO (i := .invokevirtual 117) (bq := a1) (ci := 1) (fo := (f_C_enterSlot z [.ref a1, va_rf p2, .int p3] h).bind (xback 3 [(0, .ref a0), (1, .ref a1), (2, va_rf p2), (3, .int p3)] [])) rfl rfl rfl (fun hs => ?_)
  refine xle_clV (t := []) rfl rfl hs (fun h2 => ?_)
  refine xle_next (i := .aload_n 1) (x' := (7, [(0, .ref a0), (1, .ref a1), (2, va_rf p2), (3, .int p3)], [.ref a1], h2)) rfl rfl rfl ?_
  refine xle_getR (f := (1, 0, .object "CapKernel$Thing", 0)) rfl rfl rfl (fun r3 => ?_)
  refine xle_dupq (r := r3) rfl rfl ?_
  refine xle_some (fun r_ => (11, [(0, .ref a0), (1, .ref a1), (2, va_rf p2), (3, .int p3)], [va_rf r_, va_rf r_], h2)) (fun a4 => ?_)
  refine xle_getI (f := (5, 7, .int, 1)) rfl rfl rfl (fun x5 => ?_)
  refine xle_next (i := .iconst 1) (x' := (15, [(0, .ref a0), (1, .ref a1), (2, va_rf p2), (3, .int p3)], [.int (Int32.ofInt 1), .int x5, .ref a4], h2)) rfl rfl rfl ?_
  refine xle_next (i := .iadd) (x' := (16, [(0, .ref a0), (1, .ref a1), (2, va_rf p2), (3, .int p3)], [.int (x5 + (Int32.ofInt 1)), .ref a4], h2)) rfl rfl rfl ?_
  refine xle_put (v := .int (x5 + (Int32.ofInt 1))) (f := (5, 7, .int, 1)) rfl rfl rfl ⟨by decide, rfl, rfl⟩ (fun h6 => ?_)
  refine xle_next (i := .aload_n 0) (x' := (20, [(0, .ref a0), (1, .ref a1), (2, va_rf p2), (3, .int p3)], [.ref a0], h6)) rfl rfl rfl ?_
  refine xle_getR (f := (0, 6, .object "java/util/ArrayList", 0)) rfl rfl rfl (fun r7 => ?_)
  refine xle_next (i := .aload_n 1) (x' := (24, [(0, .ref a0), (1, .ref a1), (2, va_rf p2), (3, .int p3)], [.ref a1, va_rf r7], h6)) rfl rfl rfl ?_
  refine xle_some (fun r_ => (24, [(0, .ref a0), (1, .ref a1), (2, va_rf p2), (3, .int p3)], [.ref a1, va_rf r_], h6)) (fun a8 => ?_)
  refine xle_isO (i := .invokevirtual 292) (bq := a8) (ci := 7) (fo := (f_A_add z [.ref a8, .ref a1] h6).bind (xback 24 [(0, .ref a0), (1, .ref a1), (2, va_rf p2), (3, .int p3)] [])) rfl rfl rfl (fun hs => ?_)
  refine xle_clI (t := []) rfl rfl hs (fun x10 h9 => ?_)
  refine xle_next (i := .pop) (x' := (28, [(0, .ref a0), (1, .ref a1), (2, va_rf p2), (3, .int p3)], [], h9)) rfl rfl rfl ?_
  exact xle_end (i := .return_) rfl rfl rfl
noncomputable def B_K_new_84 (z : xzs) (a0 : Nat) (rv1 : Option Nat) (rv2 : Option Nat) (rv3 : Option Nat) (xv4 : Int32) (h : xH) : Option xR := xev (K_K_new z) (84, [(0, .ref a0), (1, va_rf rv1), (2, va_rf rv2), (3, va_rf rv3), (4, .int xv4)], [], h)
noncomputable def D_K_new_0 (z : xzs) (a0 : Nat) (h : xH) : Option xR :=
  (xnarQ h 3 (Int32.ofInt 3)).bind fun qa1 => xlet qa1.1 qa1.2 fun a1 h2 =>
  (xwr h2 a0 0 0 (va_rf (some a1))).bind fun h3 =>
  xlet (xn h3) (xpush h3 3 (.inr (7, [.null, .int 0, .int 0]))) fun a4 h5 =>
  xclC (f_A_new z [.ref a4] h5) fun h6 =>
  (xwr h6 a0 0 6 (va_rf (some a4))).bind fun h7 =>
  xlet (xn h7) (xpush h7 11 (.inr (5, [.int 0, .int 0, .int 0, .null, .int 0, .int 0, .int 0, .int 0, .int 0, .int 0, .null]))) fun a8 h9 =>
  xclC (f_T_new z [.ref a8, .int (Int32.ofInt 1), .int (Int32.ofInt 0), .int (Int32.ofInt 2)] h9) fun h10 =>
  (xwr h10 a0 0 1 (va_rf (some a8))).bind fun h11 =>
  xlet (xn h11) (xpush h11 5 (.inr (4, [.null, .null, .null, .null, .null]))) fun a12 h13 =>
  xclC (f_F_new z [.ref a12] h13) fun h14 =>
  (xwr h14 a0 0 2 (va_rf (some a12))).bind fun h15 =>
  xlet (xn h15) (xpush h15 11 (.inr (5, [.int 0, .int 0, .int 0, .null, .int 0, .int 0, .int 0, .int 0, .int 0, .int 0, .null]))) fun a16 h17 =>
  xclC (f_T_new z [.ref a16, .int (Int32.ofInt 1), .int (Int32.ofInt 0), .int (Int32.ofInt 1)] h17) fun h18 =>
  xlet (xn h18) (xpush h18 11 (.inr (5, [.int 0, .int 0, .int 0, .null, .int 0, .int 0, .int 0, .int 0, .int 0, .int 0, .null]))) fun a19 h20 =>
  xclC (f_T_new z [.ref a19, .int (Int32.ofInt 1), .int (Int32.ofInt 0), .int (Int32.ofInt 0)] h20) fun h21 =>
  xlet (xn h21) (xpush h21 11 (.inr (5, [.int 0, .int 0, .int 0, .null, .int 0, .int 0, .int 0, .int 0, .int 0, .int 0, .null]))) fun a22 h23 =>
  xclC (f_T_new z [.ref a22, .int (Int32.ofInt 2), .int (Int32.ofInt 0), .int (Int32.ofInt 0)] h23) fun h24 =>
  B_K_new_84 z a0 (some a16) (some a19) (some a22) (Int32.ofInt 0) h24
theorem E_K_new (z : xzs) (a0 : Nat) (h : xH) : xle (D_K_new_0 z a0 h) (xfun (K_K_new z) 7 [.ref a0] h) := by
  unfold D_K_new_0
  refine xle_entry (Nat.le_of_ble_eq_true rfl) (xal_c (xca_a _) (rfl)) ?_
  show xle _ (xev (K_K_new z) (0, [(0, .ref a0)], [], h))
  refine xle_next (i := .aload_n 0) (x' := (1, [(0, .ref a0)], [.ref a0], h)) rfl rfl rfl ?_
  refine xle_next (i := .invokespecial 3) (x' := (4, [(0, .ref a0)], [], h)) rfl rfl rfl ?_
  refine xle_next (i := .aload_n 0) (x' := (5, [(0, .ref a0)], [.ref a0], h)) rfl rfl rfl ?_
  refine xle_next (i := .iconst 3) (x' := (6, [(0, .ref a0)], [.int (Int32.ofInt 3), .ref a0], h)) rfl rfl rfl ?_
  refine xle_newQ (kd := 3) rfl rfl rfl (fun a1 h2 => ?_)
  refine xle_put (v := va_rf (some a1)) (f := (0, 0, .array (.object "CapKernel$Client"), 2)) rfl rfl rfl ⟨by decide, xfit_arr _ _⟩ (fun h3 => ?_)
  refine xle_next (i := .aload_n 0) (x' := (13, [(0, .ref a0)], [.ref a0], h3)) rfl rfl rfl ?_
  refine xle_new (i := .new 15) (pc' := 16) (h' := xpush h3 3 (.inr (7, [.null, .int 0, .int 0]))) rfl rfl rfl (fun a4 h5 => ?_)
  refine xle_next (i := .dup) (x' := (17, [(0, .ref a0)], [.ref a4, .ref a4, .ref a0], h5)) rfl rfl rfl ?_
  refine xle_clC (i := .invokespecial 17) (fo := f_A_new z [.ref a4] h5) (t := [.ref a4, .ref a0]) rfl rfl rfl (fun h6 => ?_)
  refine xle_put (v := va_rf (some a4)) (f := (0, 6, .object "java/util/ArrayList", 2)) rfl rfl rfl ⟨by decide, xfit_obj _ _⟩ (fun h7 => ?_)
  refine xle_next (i := .aload_n 0) (x' := (24, [(0, .ref a0)], [.ref a0], h7)) rfl rfl rfl ?_
  refine xle_new (i := .new 22) (pc' := 27) (h' := xpush h7 11 (.inr (5, [.int 0, .int 0, .int 0, .null, .int 0, .int 0, .int 0, .int 0, .int 0, .int 0, .null]))) rfl rfl rfl (fun a8 h9 => ?_)
  refine xle_next (i := .dup) (x' := (28, [(0, .ref a0)], [.ref a8, .ref a8, .ref a0], h9)) rfl rfl rfl ?_
  refine xle_next (i := .iconst 1) (x' := (29, [(0, .ref a0)], [.int (Int32.ofInt 1), .ref a8, .ref a8, .ref a0], h9)) rfl rfl rfl ?_
  refine xle_next (i := .iconst 0) (x' := (30, [(0, .ref a0)], [.int (Int32.ofInt 0), .int (Int32.ofInt 1), .ref a8, .ref a8, .ref a0], h9)) rfl rfl rfl ?_
  refine xle_next (i := .iconst 2) (x' := (31, [(0, .ref a0)], [.int (Int32.ofInt 2), .int (Int32.ofInt 0), .int (Int32.ofInt 1), .ref a8, .ref a8, .ref a0], h9)) rfl rfl rfl ?_
  refine xle_clC (i := .invokespecial 24) (fo := f_T_new z [.ref a8, .int (Int32.ofInt 1), .int (Int32.ofInt 0), .int (Int32.ofInt 2)] h9) (t := [.ref a8, .ref a0]) rfl rfl rfl (fun h10 => ?_)
  refine xle_put (v := va_rf (some a8)) (f := (0, 1, .object "CapKernel$Thing", 2)) rfl rfl rfl ⟨by decide, xfit_obj _ _⟩ (fun h11 => ?_)
  refine xle_next (i := .aload_n 0) (x' := (38, [(0, .ref a0)], [.ref a0], h11)) rfl rfl rfl ?_
  refine xle_new (i := .new 31) (pc' := 41) (h' := xpush h11 5 (.inr (4, [.null, .null, .null, .null, .null]))) rfl rfl rfl (fun a12 h13 => ?_)
  refine xle_next (i := .dup) (x' := (42, [(0, .ref a0)], [.ref a12, .ref a12, .ref a0], h13)) rfl rfl rfl ?_
  refine xle_clC (i := .invokespecial 33) (fo := f_F_new z [.ref a12] h13) (t := [.ref a12, .ref a0]) rfl rfl rfl (fun h14 => ?_)
  refine xle_put (v := va_rf (some a12)) (f := (0, 2, .object "CapKernel$FileServer", 2)) rfl rfl rfl ⟨by decide, xfit_obj _ _⟩ (fun h15 => ?_)
  refine xle_new (i := .new 22) (pc' := 51) (h' := xpush h15 11 (.inr (5, [.int 0, .int 0, .int 0, .null, .int 0, .int 0, .int 0, .int 0, .int 0, .int 0, .null]))) rfl rfl rfl (fun a16 h17 => ?_)
  refine xle_next (i := .dup) (x' := (52, [(0, .ref a0)], [.ref a16, .ref a16], h17)) rfl rfl rfl ?_
  refine xle_next (i := .iconst 1) (x' := (53, [(0, .ref a0)], [.int (Int32.ofInt 1), .ref a16, .ref a16], h17)) rfl rfl rfl ?_
  refine xle_next (i := .iconst 0) (x' := (54, [(0, .ref a0)], [.int (Int32.ofInt 0), .int (Int32.ofInt 1), .ref a16, .ref a16], h17)) rfl rfl rfl ?_
  refine xle_next (i := .iconst 1) (x' := (55, [(0, .ref a0)], [.int (Int32.ofInt 1), .int (Int32.ofInt 0), .int (Int32.ofInt 1), .ref a16, .ref a16], h17)) rfl rfl rfl ?_
  refine xle_clC (i := .invokespecial 24) (fo := f_T_new z [.ref a16, .int (Int32.ofInt 1), .int (Int32.ofInt 0), .int (Int32.ofInt 1)] h17) (t := [.ref a16]) rfl rfl rfl (fun h18 => ?_)
  refine xle_next (i := .astore_n 1) (x' := (59, [(0, .ref a0), (1, .ref a16)], [], h18)) rfl rfl rfl ?_
  refine xle_new (i := .new 22) (pc' := 62) (h' := xpush h18 11 (.inr (5, [.int 0, .int 0, .int 0, .null, .int 0, .int 0, .int 0, .int 0, .int 0, .int 0, .null]))) rfl rfl rfl (fun a19 h20 => ?_)
  refine xle_next (i := .dup) (x' := (63, [(0, .ref a0), (1, .ref a16)], [.ref a19, .ref a19], h20)) rfl rfl rfl ?_
  refine xle_next (i := .iconst 1) (x' := (64, [(0, .ref a0), (1, .ref a16)], [.int (Int32.ofInt 1), .ref a19, .ref a19], h20)) rfl rfl rfl ?_
  refine xle_next (i := .iconst 0) (x' := (65, [(0, .ref a0), (1, .ref a16)], [.int (Int32.ofInt 0), .int (Int32.ofInt 1), .ref a19, .ref a19], h20)) rfl rfl rfl ?_
  refine xle_next (i := .iconst 0) (x' := (66, [(0, .ref a0), (1, .ref a16)], [.int (Int32.ofInt 0), .int (Int32.ofInt 0), .int (Int32.ofInt 1), .ref a19, .ref a19], h20)) rfl rfl rfl ?_
  refine xle_clC (i := .invokespecial 24) (fo := f_T_new z [.ref a19, .int (Int32.ofInt 1), .int (Int32.ofInt 0), .int (Int32.ofInt 0)] h20) (t := [.ref a19]) rfl rfl rfl (fun h21 => ?_)
  refine xle_next (i := .astore_n 2) (x' := (70, [(0, .ref a0), (1, .ref a16), (2, .ref a19)], [], h21)) rfl rfl rfl ?_
  refine xle_new (i := .new 22) (pc' := 73) (h' := xpush h21 11 (.inr (5, [.int 0, .int 0, .int 0, .null, .int 0, .int 0, .int 0, .int 0, .int 0, .int 0, .null]))) rfl rfl rfl (fun a22 h23 => ?_)
  refine xle_next (i := .dup) (x' := (74, [(0, .ref a0), (1, .ref a16), (2, .ref a19)], [.ref a22, .ref a22], h23)) rfl rfl rfl ?_
  refine xle_next (i := .iconst 2) (x' := (75, [(0, .ref a0), (1, .ref a16), (2, .ref a19)], [.int (Int32.ofInt 2), .ref a22, .ref a22], h23)) rfl rfl rfl ?_
  refine xle_next (i := .iconst 0) (x' := (76, [(0, .ref a0), (1, .ref a16), (2, .ref a19)], [.int (Int32.ofInt 0), .int (Int32.ofInt 2), .ref a22, .ref a22], h23)) rfl rfl rfl ?_
  refine xle_next (i := .iconst 0) (x' := (77, [(0, .ref a0), (1, .ref a16), (2, .ref a19)], [.int (Int32.ofInt 0), .int (Int32.ofInt 0), .int (Int32.ofInt 2), .ref a22, .ref a22], h23)) rfl rfl rfl ?_
  refine xle_clC (i := .invokespecial 24) (fo := f_T_new z [.ref a22, .int (Int32.ofInt 2), .int (Int32.ofInt 0), .int (Int32.ofInt 0)] h23) (t := [.ref a22]) rfl rfl rfl (fun h24 => ?_)
  refine xle_next (i := .astore_n 3) (x' := (81, [(0, .ref a0), (1, .ref a16), (2, .ref a19), (3, .ref a22)], [], h24)) rfl rfl rfl ?_
  refine xle_next (i := .iconst 0) (x' := (82, [(0, .ref a0), (1, .ref a16), (2, .ref a19), (3, .ref a22)], [.int (Int32.ofInt 0)], h24)) rfl rfl rfl ?_
  refine xle_next (i := .istore 4) (x' := (84, [(0, .ref a0), (1, .ref a16), (2, .ref a19), (3, .ref a22), (4, .int (Int32.ofInt 0))], [], h24)) rfl rfl rfl ?_
  exact xle_jump rfl
noncomputable def D_K_new_84 (z : xzs) (a0 : Nat) (rv1 : Option Nat) (rv2 : Option Nat) (rv3 : Option Nat) (xv4 : Int32) (h : xH) : Option xR :=
  if (Int32.ofInt 3) ≤ xv4 then
    some (.inl none, h)
  else
    xlet (xn h) (xpush h 19 (.inr (2, [.int 0, .null, .int 0, .int 0, .int 0, .int 0, .int 0, .int 0, .int 0, .int 0, .null, .int 0, .int 0, .null, .null, .int 0, .int 0, .null, .int 0]))) fun a25 h26 =>
    xclC (f_L_new z [.ref a25, .int (xv4 + (Int32.ofInt 1))] h26) fun h27 =>
    (rdR h27 a0 0 0).bind fun r28 =>
    r28.bind fun a29 =>
    (wrQ h27 a29 xv4 (some a25)).bind fun h30 =>
    (xisO h30 a0 0).bind fun _ => xclI (f_K_nextStamp z [.ref a0] h30) fun x32 h31 =>
    (xwr h31 a25 2 8 (.int x32)).bind fun h33 =>
    xlet (xn h33) (xpush h33 11 (.inr (5, [.int 0, .int 0, .int 0, .null, .int 0, .int 0, .int 0, .int 0, .int 0, .int 0, .null]))) fun a34 h35 =>
    xclC (f_T_new z [.ref a34, .int (Int32.ofInt 0), .int ((Int8.ofInt 16).toInt32), .int (Int32.ofInt 0)] h35) fun h36 =>
    xlet (xn h36) (xpush h36 7 (.inr (1, [.null, .int 0, .int 0, .null, .null, .int 0, .int 0]))) fun a37 h38 =>
    (rdI h38 a25 2 0).bind fun x39 =>
    xclC (f_C_new z [.ref a37, va_rf rv1, .int (Int32.ofInt 2), .int x39, .null] h38) fun h40 =>
    (rdR h40 a25 2 1).bind fun r41 =>
    (xisO h40 a0 0).bind fun _ => xclV (f_K_put z [.ref a0, .ref a37, va_rf r41, .int (Int32.ofInt 0)] h40) fun h42 =>
    xlet (xn h42) (xpush h42 7 (.inr (1, [.null, .int 0, .int 0, .null, .null, .int 0, .int 0]))) fun a43 h44 =>
    xclC (f_C_new z [.ref a43, .ref a34, .int ((Int8.ofInt 7).toInt32), .int (Int32.ofInt 0), .null] h44) fun h45 =>
    (rdR h45 a25 2 1).bind fun r46 =>
    (xisO h45 a0 0).bind fun _ => xclV (f_K_put z [.ref a0, .ref a43, va_rf r46, .int (Int32.ofInt 1)] h45) fun h47 =>
    xlet (xn h47) (xpush h47 7 (.inr (1, [.null, .int 0, .int 0, .null, .null, .int 0, .int 0]))) fun a48 h49 =>
    xclC (f_C_new z [.ref a48, va_rf rv2, .int ((Int8.ofInt 7).toInt32), .int (Int32.ofInt 0), .null] h49) fun h50 =>
    (rdR h50 a25 2 1).bind fun r51 =>
    (xisO h50 a0 0).bind fun _ => xclV (f_K_put z [.ref a0, .ref a48, va_rf r51, .int (Int32.ofInt 2)] h50) fun h52 =>
    xlet (xn h52) (xpush h52 7 (.inr (1, [.null, .int 0, .int 0, .null, .null, .int 0, .int 0]))) fun a53 h54 =>
    xclC (f_C_new z [.ref a53, va_rf rv3, .int ((Int8.ofInt 7).toInt32), .int (Int32.ofInt 0), .null] h54) fun h55 =>
    (rdR h55 a25 2 1).bind fun r56 =>
    (xisO h55 a0 0).bind fun _ => xclV (f_K_put z [.ref a0, .ref a53, va_rf r56, .int (Int32.ofInt 3)] h55) fun h57 =>
    B_K_new_84 z a0 rv1 rv2 rv3 (xv4 + Int32.ofInt 1) h57
theorem E_K_new_84 (z : xzs) (a0 : Nat) (rv1 : Option Nat) (rv2 : Option Nat) (rv3 : Option Nat) (xv4 : Int32) (h : xH) : xle (D_K_new_84 z a0 rv1 rv2 rv3 xv4 h) (B_K_new_84 z a0 rv1 rv2 rv3 xv4 h) := by
  unfold D_K_new_84 B_K_new_84
  refine xle_next (i := .iload 4) (x' := (86, [(0, .ref a0), (1, va_rf rv1), (2, va_rf rv2), (3, va_rf rv3), (4, .int xv4)], [.int xv4], h)) rfl rfl rfl ?_
  refine xle_next (i := .iconst 3) (x' := (87, [(0, .ref a0), (1, va_rf rv1), (2, va_rf rv2), (3, va_rf rv3), (4, .int xv4)], [.int (Int32.ofInt 3), .int xv4], h)) rfl rfl rfl ?_
  refine xle_icmp (cd := .ge) (q := 232) rfl rfl rfl xc_ge (fun _ => ?_) (fun _ => ?_)
  · exact xle_end (i := .return_) rfl rfl rfl
  · refine xle_new (i := .new 9) (pc' := 93) (h' := xpush h 19 (.inr (2, [.int 0, .null, .int 0, .int 0, .int 0, .int 0, .int 0, .int 0, .int 0, .int 0, .null, .int 0, .int 0, .null, .null, .int 0, .int 0, .null, .int 0]))) rfl rfl rfl (fun a25 h26 => ?_)
    refine xle_next (i := .dup) (x' := (94, [(0, .ref a0), (1, va_rf rv1), (2, va_rf rv2), (3, va_rf rv3), (4, .int xv4)], [.ref a25, .ref a25], h26)) rfl rfl rfl ?_
    refine xle_next (i := .iload 4) (x' := (96, [(0, .ref a0), (1, va_rf rv1), (2, va_rf rv2), (3, va_rf rv3), (4, .int xv4)], [.int xv4, .ref a25, .ref a25], h26)) rfl rfl rfl ?_
    refine xle_next (i := .iconst 1) (x' := (97, [(0, .ref a0), (1, va_rf rv1), (2, va_rf rv2), (3, va_rf rv3), (4, .int xv4)], [.int (Int32.ofInt 1), .int xv4, .ref a25, .ref a25], h26)) rfl rfl rfl ?_
    refine xle_next (i := .iadd) (x' := (98, [(0, .ref a0), (1, va_rf rv1), (2, va_rf rv2), (3, va_rf rv3), (4, .int xv4)], [.int (xv4 + (Int32.ofInt 1)), .ref a25, .ref a25], h26)) rfl rfl rfl ?_
    refine xle_clC (i := .invokespecial 38) (fo := f_L_new z [.ref a25, .int (xv4 + (Int32.ofInt 1))] h26) (t := [.ref a25]) rfl rfl rfl (fun h27 => ?_)
    refine xle_next (i := .astore 5) (x' := (103, [(0, .ref a0), (1, va_rf rv1), (2, va_rf rv2), (3, va_rf rv3), (4, .int xv4), (5, .ref a25)], [], h27)) rfl rfl rfl ?_
    refine xle_next (i := .aload_n 0) (x' := (104, [(0, .ref a0), (1, va_rf rv1), (2, va_rf rv2), (3, va_rf rv3), (4, .int xv4), (5, .ref a25)], [.ref a0], h27)) rfl rfl rfl ?_
    refine xle_getR (f := (0, 0, .array (.object "CapKernel$Client"), 2)) rfl rfl rfl (fun r28 => ?_)
    refine xle_next (i := .iload 4) (x' := (109, [(0, .ref a0), (1, va_rf rv1), (2, va_rf rv2), (3, va_rf rv3), (4, .int xv4), (5, .ref a25)], [.int xv4, va_rf r28], h27)) rfl rfl rfl ?_
    refine xle_next (i := .aload 5) (x' := (111, [(0, .ref a0), (1, va_rf rv1), (2, va_rf rv2), (3, va_rf rv3), (4, .int xv4), (5, .ref a25)], [.ref a25, .int xv4, va_rf r28], h27)) rfl rfl rfl ?_
    refine xle_some (fun r_ => (111, [(0, .ref a0), (1, va_rf rv1), (2, va_rf rv2), (3, va_rf rv3), (4, .int xv4), (5, .ref a25)], [.ref a25, .int xv4, va_rf r_], h27)) (fun a29 => ?_)
    refine xle_aast (y := (some a25)) rfl rfl (fun h30 => ?_)
    refine xle_next (i := .aload 5) (x' := (114, [(0, .ref a0), (1, va_rf rv1), (2, va_rf rv2), (3, va_rf rv3), (4, .int xv4), (5, .ref a25)], [.ref a25], h30)) rfl rfl rfl ?_
    refine xle_next (i := .aload_n 0) (x' := (115, [(0, .ref a0), (1, va_rf rv1), (2, va_rf rv2), (3, va_rf rv3), (4, .int xv4), (5, .ref a25)], [.ref a0, .ref a25], h30)) rfl rfl rfl ?_
    refine xle_isO (i := .invokevirtual 41) (bq := a0) (ci := 0) (fo := (f_K_nextStamp z [.ref a0] h30).bind (xback 115 [(0, .ref a0), (1, va_rf rv1), (2, va_rf rv2), (3, va_rf rv3), (4, .int xv4), (5, .ref a25)] [.ref a25])) rfl rfl rfl (fun hs => ?_)
    refine xle_clI (t := [.ref a25]) rfl rfl hs (fun x32 h31 => ?_)
    refine xle_put (v := .int x32) (f := (2, 8, .int, 1)) rfl rfl rfl ⟨by decide, rfl, rfl⟩ (fun h33 => ?_)
    refine xle_new (i := .new 22) (pc' := 124) (h' := xpush h33 11 (.inr (5, [.int 0, .int 0, .int 0, .null, .int 0, .int 0, .int 0, .int 0, .int 0, .int 0, .null]))) rfl rfl rfl (fun a34 h35 => ?_)
    refine xle_next (i := .dup) (x' := (125, [(0, .ref a0), (1, va_rf rv1), (2, va_rf rv2), (3, va_rf rv3), (4, .int xv4), (5, .ref a25)], [.ref a34, .ref a34], h35)) rfl rfl rfl ?_
    refine xle_next (i := .iconst 0) (x' := (126, [(0, .ref a0), (1, va_rf rv1), (2, va_rf rv2), (3, va_rf rv3), (4, .int xv4), (5, .ref a25)], [.int (Int32.ofInt 0), .ref a34, .ref a34], h35)) rfl rfl rfl ?_
    refine xle_next (i := .bipush 16) (x' := (128, [(0, .ref a0), (1, va_rf rv1), (2, va_rf rv2), (3, va_rf rv3), (4, .int xv4), (5, .ref a25)], [.int ((Int8.ofInt 16).toInt32), .int (Int32.ofInt 0), .ref a34, .ref a34], h35)) rfl rfl rfl ?_
    refine xle_next (i := .iconst 0) (x' := (129, [(0, .ref a0), (1, va_rf rv1), (2, va_rf rv2), (3, va_rf rv3), (4, .int xv4), (5, .ref a25)], [.int (Int32.ofInt 0), .int ((Int8.ofInt 16).toInt32), .int (Int32.ofInt 0), .ref a34, .ref a34], h35)) rfl rfl rfl ?_
    refine xle_clC (i := .invokespecial 24) (fo := f_T_new z [.ref a34, .int (Int32.ofInt 0), .int ((Int8.ofInt 16).toInt32), .int (Int32.ofInt 0)] h35) (t := [.ref a34]) rfl rfl rfl (fun h36 => ?_)
    refine xle_next (i := .astore 6) (x' := (134, [(0, .ref a0), (1, va_rf rv1), (2, va_rf rv2), (3, va_rf rv3), (4, .int xv4), (5, .ref a25), (6, .ref a34)], [], h36)) rfl rfl rfl ?_
    refine xle_next (i := .aload_n 0) (x' := (135, [(0, .ref a0), (1, va_rf rv1), (2, va_rf rv2), (3, va_rf rv3), (4, .int xv4), (5, .ref a25), (6, .ref a34)], [.ref a0], h36)) rfl rfl rfl ?_
    refine xle_new (i := .new 49) (pc' := 138) (h' := xpush h36 7 (.inr (1, [.null, .int 0, .int 0, .null, .null, .int 0, .int 0]))) rfl rfl rfl (fun a37 h38 => ?_)
    refine xle_next (i := .dup) (x' := (139, [(0, .ref a0), (1, va_rf rv1), (2, va_rf rv2), (3, va_rf rv3), (4, .int xv4), (5, .ref a25), (6, .ref a34)], [.ref a37, .ref a37, .ref a0], h38)) rfl rfl rfl ?_
    refine xle_aldn (k := 1) (r := rv1) rfl rfl rfl ?_
    refine xle_next (i := .iconst 2) (x' := (141, [(0, .ref a0), (1, va_rf rv1), (2, va_rf rv2), (3, va_rf rv3), (4, .int xv4), (5, .ref a25), (6, .ref a34)], [.int (Int32.ofInt 2), va_rf rv1, .ref a37, .ref a37, .ref a0], h38)) rfl rfl rfl ?_
    refine xle_next (i := .aload 5) (x' := (143, [(0, .ref a0), (1, va_rf rv1), (2, va_rf rv2), (3, va_rf rv3), (4, .int xv4), (5, .ref a25), (6, .ref a34)], [.ref a25, .int (Int32.ofInt 2), va_rf rv1, .ref a37, .ref a37, .ref a0], h38)) rfl rfl rfl ?_
    refine xle_getI (f := (2, 0, .int, 0)) rfl rfl rfl (fun x39 => ?_)
    refine xle_next (i := .aconst_null) (x' := (147, [(0, .ref a0), (1, va_rf rv1), (2, va_rf rv2), (3, va_rf rv3), (4, .int xv4), (5, .ref a25), (6, .ref a34)], [.null, .int x39, .int (Int32.ofInt 2), va_rf rv1, .ref a37, .ref a37, .ref a0], h38)) rfl rfl rfl ?_
    refine xle_clC (i := .invokespecial 54) (fo := f_C_new z [.ref a37, va_rf rv1, .int (Int32.ofInt 2), .int x39, .null] h38) (t := [.ref a37, .ref a0]) rfl rfl rfl (fun h40 => ?_)
    refine xle_next (i := .aload 5) (x' := (152, [(0, .ref a0), (1, va_rf rv1), (2, va_rf rv2), (3, va_rf rv3), (4, .int xv4), (5, .ref a25), (6, .ref a34)], [.ref a25, .ref a37, .ref a0], h40)) rfl rfl rfl ?_
    refine xle_getR (f := (2, 1, .object "CapKernel$Thing", 0)) rfl rfl rfl (fun r41 => ?_)
    refine xle_next (i := .iconst 0) (x' := (156, [(0, .ref a0), (1, va_rf rv1), (2, va_rf rv2), (3, va_rf rv3), (4, .int xv4), (5, .ref a25), (6, .ref a34)], [.int (Int32.ofInt 0), va_rf r41, .ref a37, .ref a0], h40)) rfl rfl rfl ?_
    refine xle_isO (i := .invokevirtual 60) (bq := a0) (ci := 0) (fo := (f_K_put z [.ref a0, .ref a37, va_rf r41, .int (Int32.ofInt 0)] h40).bind (xback 156 [(0, .ref a0), (1, va_rf rv1), (2, va_rf rv2), (3, va_rf rv3), (4, .int xv4), (5, .ref a25), (6, .ref a34)] [])) rfl rfl rfl (fun hs => ?_)
    refine xle_clV (t := []) rfl rfl hs (fun h42 => ?_)
    refine xle_next (i := .aload_n 0) (x' := (160, [(0, .ref a0), (1, va_rf rv1), (2, va_rf rv2), (3, va_rf rv3), (4, .int xv4), (5, .ref a25), (6, .ref a34)], [.ref a0], h42)) rfl rfl rfl ?_
    refine xle_new (i := .new 49) (pc' := 163) (h' := xpush h42 7 (.inr (1, [.null, .int 0, .int 0, .null, .null, .int 0, .int 0]))) rfl rfl rfl (fun a43 h44 => ?_)
    refine xle_next (i := .dup) (x' := (164, [(0, .ref a0), (1, va_rf rv1), (2, va_rf rv2), (3, va_rf rv3), (4, .int xv4), (5, .ref a25), (6, .ref a34)], [.ref a43, .ref a43, .ref a0], h44)) rfl rfl rfl ?_
    refine xle_next (i := .aload 6) (x' := (166, [(0, .ref a0), (1, va_rf rv1), (2, va_rf rv2), (3, va_rf rv3), (4, .int xv4), (5, .ref a25), (6, .ref a34)], [.ref a34, .ref a43, .ref a43, .ref a0], h44)) rfl rfl rfl ?_
    refine xle_next (i := .bipush 7) (x' := (168, [(0, .ref a0), (1, va_rf rv1), (2, va_rf rv2), (3, va_rf rv3), (4, .int xv4), (5, .ref a25), (6, .ref a34)], [.int ((Int8.ofInt 7).toInt32), .ref a34, .ref a43, .ref a43, .ref a0], h44)) rfl rfl rfl ?_
    refine xle_next (i := .iconst 0) (x' := (169, [(0, .ref a0), (1, va_rf rv1), (2, va_rf rv2), (3, va_rf rv3), (4, .int xv4), (5, .ref a25), (6, .ref a34)], [.int (Int32.ofInt 0), .int ((Int8.ofInt 7).toInt32), .ref a34, .ref a43, .ref a43, .ref a0], h44)) rfl rfl rfl ?_
    refine xle_next (i := .aconst_null) (x' := (170, [(0, .ref a0), (1, va_rf rv1), (2, va_rf rv2), (3, va_rf rv3), (4, .int xv4), (5, .ref a25), (6, .ref a34)], [.null, .int (Int32.ofInt 0), .int ((Int8.ofInt 7).toInt32), .ref a34, .ref a43, .ref a43, .ref a0], h44)) rfl rfl rfl ?_
    refine xle_clC (i := .invokespecial 54) (fo := f_C_new z [.ref a43, .ref a34, .int ((Int8.ofInt 7).toInt32), .int (Int32.ofInt 0), .null] h44) (t := [.ref a43, .ref a0]) rfl rfl rfl (fun h45 => ?_)
    refine xle_next (i := .aload 5) (x' := (175, [(0, .ref a0), (1, va_rf rv1), (2, va_rf rv2), (3, va_rf rv3), (4, .int xv4), (5, .ref a25), (6, .ref a34)], [.ref a25, .ref a43, .ref a0], h45)) rfl rfl rfl ?_
    refine xle_getR (f := (2, 1, .object "CapKernel$Thing", 0)) rfl rfl rfl (fun r46 => ?_)
    refine xle_next (i := .iconst 1) (x' := (179, [(0, .ref a0), (1, va_rf rv1), (2, va_rf rv2), (3, va_rf rv3), (4, .int xv4), (5, .ref a25), (6, .ref a34)], [.int (Int32.ofInt 1), va_rf r46, .ref a43, .ref a0], h45)) rfl rfl rfl ?_
    refine xle_isO (i := .invokevirtual 60) (bq := a0) (ci := 0) (fo := (f_K_put z [.ref a0, .ref a43, va_rf r46, .int (Int32.ofInt 1)] h45).bind (xback 179 [(0, .ref a0), (1, va_rf rv1), (2, va_rf rv2), (3, va_rf rv3), (4, .int xv4), (5, .ref a25), (6, .ref a34)] [])) rfl rfl rfl (fun hs => ?_)
    refine xle_clV (t := []) rfl rfl hs (fun h47 => ?_)
    refine xle_next (i := .aload_n 0) (x' := (183, [(0, .ref a0), (1, va_rf rv1), (2, va_rf rv2), (3, va_rf rv3), (4, .int xv4), (5, .ref a25), (6, .ref a34)], [.ref a0], h47)) rfl rfl rfl ?_
    refine xle_new (i := .new 49) (pc' := 186) (h' := xpush h47 7 (.inr (1, [.null, .int 0, .int 0, .null, .null, .int 0, .int 0]))) rfl rfl rfl (fun a48 h49 => ?_)
    refine xle_next (i := .dup) (x' := (187, [(0, .ref a0), (1, va_rf rv1), (2, va_rf rv2), (3, va_rf rv3), (4, .int xv4), (5, .ref a25), (6, .ref a34)], [.ref a48, .ref a48, .ref a0], h49)) rfl rfl rfl ?_
    refine xle_aldn (k := 2) (r := rv2) rfl rfl rfl ?_
    refine xle_next (i := .bipush 7) (x' := (190, [(0, .ref a0), (1, va_rf rv1), (2, va_rf rv2), (3, va_rf rv3), (4, .int xv4), (5, .ref a25), (6, .ref a34)], [.int ((Int8.ofInt 7).toInt32), va_rf rv2, .ref a48, .ref a48, .ref a0], h49)) rfl rfl rfl ?_
    refine xle_next (i := .iconst 0) (x' := (191, [(0, .ref a0), (1, va_rf rv1), (2, va_rf rv2), (3, va_rf rv3), (4, .int xv4), (5, .ref a25), (6, .ref a34)], [.int (Int32.ofInt 0), .int ((Int8.ofInt 7).toInt32), va_rf rv2, .ref a48, .ref a48, .ref a0], h49)) rfl rfl rfl ?_
    refine xle_next (i := .aconst_null) (x' := (192, [(0, .ref a0), (1, va_rf rv1), (2, va_rf rv2), (3, va_rf rv3), (4, .int xv4), (5, .ref a25), (6, .ref a34)], [.null, .int (Int32.ofInt 0), .int ((Int8.ofInt 7).toInt32), va_rf rv2, .ref a48, .ref a48, .ref a0], h49)) rfl rfl rfl ?_
    refine xle_clC (i := .invokespecial 54) (fo := f_C_new z [.ref a48, va_rf rv2, .int ((Int8.ofInt 7).toInt32), .int (Int32.ofInt 0), .null] h49) (t := [.ref a48, .ref a0]) rfl rfl rfl (fun h50 => ?_)
    refine xle_next (i := .aload 5) (x' := (197, [(0, .ref a0), (1, va_rf rv1), (2, va_rf rv2), (3, va_rf rv3), (4, .int xv4), (5, .ref a25), (6, .ref a34)], [.ref a25, .ref a48, .ref a0], h50)) rfl rfl rfl ?_
    refine xle_getR (f := (2, 1, .object "CapKernel$Thing", 0)) rfl rfl rfl (fun r51 => ?_)
    refine xle_next (i := .iconst 2) (x' := (201, [(0, .ref a0), (1, va_rf rv1), (2, va_rf rv2), (3, va_rf rv3), (4, .int xv4), (5, .ref a25), (6, .ref a34)], [.int (Int32.ofInt 2), va_rf r51, .ref a48, .ref a0], h50)) rfl rfl rfl ?_
    refine xle_isO (i := .invokevirtual 60) (bq := a0) (ci := 0) (fo := (f_K_put z [.ref a0, .ref a48, va_rf r51, .int (Int32.ofInt 2)] h50).bind (xback 201 [(0, .ref a0), (1, va_rf rv1), (2, va_rf rv2), (3, va_rf rv3), (4, .int xv4), (5, .ref a25), (6, .ref a34)] [])) rfl rfl rfl (fun hs => ?_)
    refine xle_clV (t := []) rfl rfl hs (fun h52 => ?_)
    refine xle_next (i := .aload_n 0) (x' := (205, [(0, .ref a0), (1, va_rf rv1), (2, va_rf rv2), (3, va_rf rv3), (4, .int xv4), (5, .ref a25), (6, .ref a34)], [.ref a0], h52)) rfl rfl rfl ?_
    refine xle_new (i := .new 49) (pc' := 208) (h' := xpush h52 7 (.inr (1, [.null, .int 0, .int 0, .null, .null, .int 0, .int 0]))) rfl rfl rfl (fun a53 h54 => ?_)
    refine xle_next (i := .dup) (x' := (209, [(0, .ref a0), (1, va_rf rv1), (2, va_rf rv2), (3, va_rf rv3), (4, .int xv4), (5, .ref a25), (6, .ref a34)], [.ref a53, .ref a53, .ref a0], h54)) rfl rfl rfl ?_
    refine xle_aldn (k := 3) (r := rv3) rfl rfl rfl ?_
    refine xle_next (i := .bipush 7) (x' := (212, [(0, .ref a0), (1, va_rf rv1), (2, va_rf rv2), (3, va_rf rv3), (4, .int xv4), (5, .ref a25), (6, .ref a34)], [.int ((Int8.ofInt 7).toInt32), va_rf rv3, .ref a53, .ref a53, .ref a0], h54)) rfl rfl rfl ?_
    refine xle_next (i := .iconst 0) (x' := (213, [(0, .ref a0), (1, va_rf rv1), (2, va_rf rv2), (3, va_rf rv3), (4, .int xv4), (5, .ref a25), (6, .ref a34)], [.int (Int32.ofInt 0), .int ((Int8.ofInt 7).toInt32), va_rf rv3, .ref a53, .ref a53, .ref a0], h54)) rfl rfl rfl ?_
    refine xle_next (i := .aconst_null) (x' := (214, [(0, .ref a0), (1, va_rf rv1), (2, va_rf rv2), (3, va_rf rv3), (4, .int xv4), (5, .ref a25), (6, .ref a34)], [.null, .int (Int32.ofInt 0), .int ((Int8.ofInt 7).toInt32), va_rf rv3, .ref a53, .ref a53, .ref a0], h54)) rfl rfl rfl ?_
    refine xle_clC (i := .invokespecial 54) (fo := f_C_new z [.ref a53, va_rf rv3, .int ((Int8.ofInt 7).toInt32), .int (Int32.ofInt 0), .null] h54) (t := [.ref a53, .ref a0]) rfl rfl rfl (fun h55 => ?_)
    refine xle_next (i := .aload 5) (x' := (219, [(0, .ref a0), (1, va_rf rv1), (2, va_rf rv2), (3, va_rf rv3), (4, .int xv4), (5, .ref a25), (6, .ref a34)], [.ref a25, .ref a53, .ref a0], h55)) rfl rfl rfl ?_
    refine xle_getR (f := (2, 1, .object "CapKernel$Thing", 0)) rfl rfl rfl (fun r56 => ?_)
    refine xle_next (i := .iconst 3) (x' := (223, [(0, .ref a0), (1, va_rf rv1), (2, va_rf rv2), (3, va_rf rv3), (4, .int xv4), (5, .ref a25), (6, .ref a34)], [.int (Int32.ofInt 3), va_rf r56, .ref a53, .ref a0], h55)) rfl rfl rfl ?_
    refine xle_isO (i := .invokevirtual 60) (bq := a0) (ci := 0) (fo := (f_K_put z [.ref a0, .ref a53, va_rf r56, .int (Int32.ofInt 3)] h55).bind (xback 223 [(0, .ref a0), (1, va_rf rv1), (2, va_rf rv2), (3, va_rf rv3), (4, .int xv4), (5, .ref a25), (6, .ref a34)] [])) rfl rfl rfl (fun hs => ?_)
    refine xle_clV (t := []) rfl rfl hs (fun h57 => ?_)
    refine xle_next (i := .iinc 4 1) (x' := (229, [(0, .ref a0), (1, va_rf rv1), (2, va_rf rv2), (3, va_rf rv3), (4, .int (xv4 + Int32.ofInt 1)), (5, .ref a25), (6, .ref a34)], [], h57)) rfl rfl rfl ?_
    refine xle_next (i := .goto (-145)) (x' := (84, [(0, .ref a0), (1, va_rf rv1), (2, va_rf rv2), (3, va_rf rv3), (4, .int (xv4 + Int32.ofInt 1)), (5, .ref a25), (6, .ref a34)], [], h57)) rfl rfl rfl ?_
    exact xle_jump rfl
noncomputable def B_K_firstInLine_4 (z : xzs) (a0 : Nat) (rv1 : Option Nat) (xv2 : Int32) (h : xH) : Option xR := xev (K_K_firstInLine z) (4, [(0, .ref a0), (1, va_rf rv1), (2, .int xv2)], [], h)
noncomputable def B_K_firstInLine_41 (z : xzs) (a0 : Nat) (rv1 : Option Nat) (xv2 : Int32) (h : xH) : Option xR := xev (K_K_firstInLine z) (41, [(0, .ref a0), (1, va_rf rv1), (2, .int xv2)], [], h)
noncomputable def B_K_firstInLine_39 (z : xzs) (a0 : Nat) (xv2 : Int32) (rv3 : Option Nat) (h : xH) : Option xR := xev (K_K_firstInLine z) (39, [(0, .ref a0), (2, .int xv2), (3, va_rf rv3)], [], h)
noncomputable def D_K_firstInLine_0 (z : xzs) (a0 : Nat) (h : xH) : Option xR :=
  B_K_firstInLine_4 z a0 none (Int32.ofInt 0) h
theorem E_K_firstInLine (z : xzs) (a0 : Nat) (h : xH) : xle (D_K_firstInLine_0 z a0 h) (xfun (K_K_firstInLine z) 4 [.ref a0] h) := by
  unfold D_K_firstInLine_0
  refine xle_entry (Nat.le_of_ble_eq_true rfl) (xal_c (xca_a _) (rfl)) ?_
  show xle _ (xev (K_K_firstInLine z) (0, [(0, .ref a0)], [], h))
  refine xle_next (i := .aconst_null) (x' := (1, [(0, .ref a0)], [.null], h)) rfl rfl rfl ?_
  refine xle_next (i := .astore_n 1) (x' := (2, [(0, .ref a0), (1, .null)], [], h)) rfl rfl rfl ?_
  refine xle_next (i := .iconst 0) (x' := (3, [(0, .ref a0), (1, .null)], [.int (Int32.ofInt 0)], h)) rfl rfl rfl ?_
  refine xle_next (i := .istore_n 2) (x' := (4, [(0, .ref a0), (1, .null), (2, .int (Int32.ofInt 0))], [], h)) rfl rfl rfl ?_
  exact xle_jump rfl
noncomputable def D_K_firstInLine_4 (z : xzs) (a0 : Nat) (rv1 : Option Nat) (xv2 : Int32) (h : xH) : Option xR :=
  (rdR h a0 0 0).bind fun r1 =>
  r1.bind fun a2 =>
  (xalen h a2).bind fun n3 =>
  if (Int32.ofNat n3) ≤ xv2 then
    some (.inl (some (va_rf rv1)), h)
  else
    (rdR h a0 0 0).bind fun r4 =>
    r4.bind fun a5 =>
    (rdQ h a5 xv2).bind fun r6 =>
    r6.bind fun a7 =>
    (rdI h a7 2 2).bind fun x8 =>
    if ¬ x8 = 0 then
      B_K_firstInLine_41 z a0 rv1 xv2 h
    else
      xcase rv1 (
        B_K_firstInLine_39 z a0 xv2 (some a7) h
      ) fun a9 =>
        (xisO h a7 2).bind fun _ => xclI (f_L_comesBefore z [.ref a7, .ref a9] h) fun x11 h10 =>
        if x11 = 0 then
          B_K_firstInLine_41 z a0 (some a9) xv2 h10
        else
          B_K_firstInLine_39 z a0 xv2 (some a7) h10
theorem E_K_firstInLine_4 (z : xzs) (a0 : Nat) (rv1 : Option Nat) (xv2 : Int32) (h : xH) : xle (D_K_firstInLine_4 z a0 rv1 xv2 h) (B_K_firstInLine_4 z a0 rv1 xv2 h) := by
  unfold D_K_firstInLine_4 B_K_firstInLine_4
  refine xle_next (i := .iload_n 2) (x' := (5, [(0, .ref a0), (1, va_rf rv1), (2, .int xv2)], [.int xv2], h)) rfl rfl rfl ?_
  refine xle_next (i := .aload_n 0) (x' := (6, [(0, .ref a0), (1, va_rf rv1), (2, .int xv2)], [.ref a0, .int xv2], h)) rfl rfl rfl ?_
  refine xle_getR (f := (0, 0, .array (.object "CapKernel$Client"), 0)) rfl rfl rfl (fun r1 => ?_)
  refine xle_some (fun r_ => (9, [(0, .ref a0), (1, va_rf rv1), (2, .int xv2)], [va_rf r_, .int xv2], h)) (fun a2 => ?_)
  refine xle_alen rfl rfl (fun n3 => ?_)
  refine xle_icmp (cd := .ge) (q := 47) rfl rfl rfl xc_ge (fun _ => ?_) (fun _ => ?_)
  · refine xle_aldn (k := 1) (r := rv1) rfl rfl rfl ?_
    exact xle_aret (r := rv1) rfl rfl rfl rfl
  · refine xle_next (i := .aload_n 0) (x' := (14, [(0, .ref a0), (1, va_rf rv1), (2, .int xv2)], [.ref a0], h)) rfl rfl rfl ?_
    refine xle_getR (f := (0, 0, .array (.object "CapKernel$Client"), 0)) rfl rfl rfl (fun r4 => ?_)
    refine xle_next (i := .iload_n 2) (x' := (18, [(0, .ref a0), (1, va_rf rv1), (2, .int xv2)], [.int xv2, va_rf r4], h)) rfl rfl rfl ?_
    refine xle_some (fun r_ => (18, [(0, .ref a0), (1, va_rf rv1), (2, .int xv2)], [.int xv2, va_rf r_], h)) (fun a5 => ?_)
    refine xle_aald rfl rfl (fun r6 => ?_)
    refine xle_astn (k := 3) (r := r6) (L' := [(0, .ref a0), (1, va_rf rv1), (2, .int xv2), (3, va_rf r6)]) rfl rfl rfl ?_
    refine xle_aldn (k := 3) (r := r6) rfl rfl rfl ?_
    refine xle_some (fun r_ => (21, [(0, .ref a0), (1, va_rf rv1), (2, .int xv2), (3, va_rf r_)], [va_rf r_], h)) (fun a7 => ?_)
    refine xle_getI (f := (2, 2, .int, 1)) rfl rfl rfl (fun x8 => ?_)
    refine xle_if (cd := .ne) (q := 41) rfl rfl rfl xc_ne (fun _ => ?_) (fun _ => ?_)
    · exact xle_jump rfl
    · refine xle_aldn (k := 1) (r := rv1) rfl rfl rfl ?_
      refine xle_case (fun r_ => (28, [(0, .ref a0), (1, va_rf r_), (2, .int xv2), (3, .ref a7)], [va_rf r_], h)) ?_ (fun a9 => ?_)
      · refine xle_next (i := .ifnull 11) (x' := (39, [(0, .ref a0), (1, .null), (2, .int xv2), (3, .ref a7)], [], h)) rfl rfl rfl ?_
        exact xle_jump rfl
      · refine xle_next (i := .ifnull 11) (x' := (31, [(0, .ref a0), (1, .ref a9), (2, .int xv2), (3, .ref a7)], [], h)) rfl rfl rfl ?_
        refine xle_next (i := .aload_n 3) (x' := (32, [(0, .ref a0), (1, .ref a9), (2, .int xv2), (3, .ref a7)], [.ref a7], h)) rfl rfl rfl ?_
        refine xle_next (i := .aload_n 1) (x' := (33, [(0, .ref a0), (1, .ref a9), (2, .int xv2), (3, .ref a7)], [.ref a9, .ref a7], h)) rfl rfl rfl ?_
        refine xle_isO (i := .invokevirtual 342) (bq := a7) (ci := 2) (fo := (f_L_comesBefore z [.ref a7, .ref a9] h).bind (xback 33 [(0, .ref a0), (1, .ref a9), (2, .int xv2), (3, .ref a7)] [])) rfl rfl rfl (fun hs => ?_)
        refine xle_clI (t := []) rfl rfl hs (fun x11 h10 => ?_)
        refine xle_if (cd := .eq) (q := 41) rfl rfl rfl xc_eq (fun _ => ?_) (fun _ => ?_)
        · exact xle_jump rfl
        · exact xle_jump rfl
noncomputable def D_K_firstInLine_41 (z : xzs) (a0 : Nat) (rv1 : Option Nat) (xv2 : Int32) (h : xH) : Option xR :=
  B_K_firstInLine_4 z a0 rv1 (xv2 + Int32.ofInt 1) h
theorem E_K_firstInLine_41 (z : xzs) (a0 : Nat) (rv1 : Option Nat) (xv2 : Int32) (h : xH) : xle (D_K_firstInLine_41 z a0 rv1 xv2 h) (B_K_firstInLine_41 z a0 rv1 xv2 h) := by
  unfold D_K_firstInLine_41 B_K_firstInLine_41
  refine xle_next (i := .iinc 2 1) (x' := (44, [(0, .ref a0), (1, va_rf rv1), (2, .int (xv2 + Int32.ofInt 1))], [], h)) rfl rfl rfl ?_
  refine xle_next (i := .goto (-40)) (x' := (4, [(0, .ref a0), (1, va_rf rv1), (2, .int (xv2 + Int32.ofInt 1))], [], h)) rfl rfl rfl ?_
  exact xle_jump rfl
noncomputable def D_K_firstInLine_39 (z : xzs) (a0 : Nat) (xv2 : Int32) (rv3 : Option Nat) (h : xH) : Option xR :=
  B_K_firstInLine_41 z a0 rv3 xv2 h
theorem E_K_firstInLine_39 (z : xzs) (a0 : Nat) (xv2 : Int32) (rv3 : Option Nat) (h : xH) : xle (D_K_firstInLine_39 z a0 xv2 rv3 h) (B_K_firstInLine_39 z a0 xv2 rv3 h) := by
  unfold D_K_firstInLine_39 B_K_firstInLine_39
  refine xle_aldn (k := 3) (r := rv3) rfl rfl rfl ?_
  refine xle_astn (k := 1) (r := rv3) (L' := [(0, .ref a0), (1, va_rf rv3), (2, .int xv2), (3, va_rf rv3)]) rfl rfl rfl ?_
  exact xle_jump rfl
noncomputable def D_K_actor_0 (z : xzs) (a0 : Nat) (h : xH) : Option xR :=
  (xisO h a0 0).bind fun _ => xclR (f_K_firstInLine z [.ref a0] h) fun r2 h1 =>
  xcase r2 (
    xlet (xn h1) (xpush h1 6 (.inr (11, [.null, .null, .int 0, .null, .null, .null]))) fun a4 h5 =>
    xclC (f_X_state z [.ref a4] h5) fun h6 =>
    some (.inr a4, h6)
  ) fun a3 =>
    some (.inl (some (va_rf (some a3))), h1)
theorem E_K_actor (z : xzs) (a0 : Nat) (h : xH) : xle (D_K_actor_0 z a0 h) (xfun (K_K_actor z) 2 [.ref a0] h) := by
  unfold D_K_actor_0
  refine xle_entry (Nat.le_of_ble_eq_true rfl) (xal_c (xca_a _) (rfl)) ?_
  show xle _ (xev (K_K_actor z) (0, [(0, .ref a0)], [], h))
  refine xle_next (i := .aload_n 0) (x' := (1, [(0, .ref a0)], [.ref a0], h)) rfl rfl rfl ?_
  refine xle_isO (i := .invokevirtual 234) (bq := a0) (ci := 0) (fo := (f_K_firstInLine z [.ref a0] h).bind (xback 1 [(0, .ref a0)] [])) rfl rfl rfl (fun hs => ?_)
  refine xle_clR (t := []) rfl rfl hs (fun r2 h1 => ?_)
  refine xle_astn (k := 1) (r := r2) (L' := [(0, .ref a0), (1, va_rf r2)]) rfl rfl rfl ?_
  refine xle_aldn (k := 1) (r := r2) rfl rfl rfl ?_
  refine xle_case (fun r_ => (6, [(0, .ref a0), (1, va_rf r_)], [va_rf r_], h1)) ?_ (fun a3 => ?_)
  · refine xle_next (i := .ifnonnull 11) (x' := (9, [(0, .ref a0), (1, .null)], [], h1)) rfl rfl rfl ?_
    refine xle_new (i := .new 208) (pc' := 12) (h' := xpush h1 6 (.inr (11, [.null, .null, .int 0, .null, .null, .null]))) rfl rfl rfl (fun a4 h5 => ?_)
    refine xle_next (i := .dup) (x' := (13, [(0, .ref a0), (1, .null)], [.ref a4, .ref a4], h5)) rfl rfl rfl ?_
    refine xle_clC (i := .invokespecial 210) (fo := f_X_state z [.ref a4] h5) (t := [.ref a4]) rfl rfl rfl (fun h6 => ?_)
    exact xle_end (i := .athrow) rfl rfl rfl
  · refine xle_next (i := .ifnonnull 11) (x' := (17, [(0, .ref a0), (1, .ref a3)], [], h1)) rfl rfl rfl ?_
    refine xle_next (i := .aload_n 1) (x' := (18, [(0, .ref a0), (1, .ref a3)], [.ref a3], h1)) rfl rfl rfl ?_
    exact xle_aret (r := (some a3)) rfl rfl rfl rfl
noncomputable def B_K_isWithin_14 (z : xzs)  (h : xH) : Option xR := xev (K_K_isWithin z) (14, [], [], h)
noncomputable def B_K_isWithin_15 (z : xzs) (xs0 : Int32) (h : xH) : Option xR := xev (K_K_isWithin z) (15, [], [.int xs0], h)
noncomputable def D_K_isWithin_0 (z : xzs) (p0 : Int32) (p1 : Int32) (p2 : Int32) (h : xH) : Option xR :=
  if p0 < p1 then
    B_K_isWithin_14 z h
  else
    if p2 < p0 then
      B_K_isWithin_14 z h
    else
      B_K_isWithin_15 z (Int32.ofInt 1) h
theorem E_K_isWithin (z : xzs) (p0 : Int32) (p1 : Int32) (p2 : Int32) (h : xH) : xle (D_K_isWithin_0 z p0 p1 p2 h) (xfun (K_K_isWithin z) 3 [.int p0, .int p1, .int p2] h) := by
  unfold D_K_isWithin_0
  refine xle_entry (Nat.le_of_ble_eq_true rfl) (xal_c (xca_i _) (xal_c (xca_i _) (xal_c (xca_i _) (rfl)))) ?_
  show xle _ (xev (K_K_isWithin z) (0, [(0, .int p0), (1, .int p1), (2, .int p2)], [], h))
  refine xle_next (i := .iload_n 0) (x' := (1, [(0, .int p0), (1, .int p1), (2, .int p2)], [.int p0], h)) rfl rfl rfl ?_
  refine xle_next (i := .iload_n 1) (x' := (2, [(0, .int p0), (1, .int p1), (2, .int p2)], [.int p1, .int p0], h)) rfl rfl rfl ?_
  refine xle_icmp (cd := .lt) (q := 14) rfl rfl rfl xc_lt (fun _ => ?_) (fun _ => ?_)
  · exact xle_jump rfl
  · refine xle_next (i := .iload_n 0) (x' := (6, [(0, .int p0), (1, .int p1), (2, .int p2)], [.int p0], h)) rfl rfl rfl ?_
    refine xle_next (i := .iload_n 2) (x' := (7, [(0, .int p0), (1, .int p1), (2, .int p2)], [.int p2, .int p0], h)) rfl rfl rfl ?_
    refine xle_icmp (cd := .gt) (q := 14) rfl rfl rfl xc_gt (fun _ => ?_) (fun _ => ?_)
    · exact xle_jump rfl
    · refine xle_next (i := .iconst 1) (x' := (11, [(0, .int p0), (1, .int p1), (2, .int p2)], [.int (Int32.ofInt 1)], h)) rfl rfl rfl ?_
      refine xle_next (i := .goto 4) (x' := (15, [(0, .int p0), (1, .int p1), (2, .int p2)], [.int (Int32.ofInt 1)], h)) rfl rfl rfl ?_
      exact xle_jump rfl
noncomputable def D_K_isWithin_14 (z : xzs)  (h : xH) : Option xR :=
  B_K_isWithin_15 z (Int32.ofInt 0) h
theorem E_K_isWithin_14 (z : xzs)  (h : xH) : xle (D_K_isWithin_14 z  h) (B_K_isWithin_14 z  h) := by
  unfold D_K_isWithin_14 B_K_isWithin_14
  refine xle_next (i := .iconst 0) (x' := (15, [], [.int (Int32.ofInt 0)], h)) rfl rfl rfl ?_
  exact xle_jump rfl
noncomputable def D_K_isWithin_15 (z : xzs) (xs0 : Int32) (h : xH) : Option xR :=
  if xs0 = 0 ∨ xs0 = 1 then some (.inl (some (.int xs0)), h) else none
theorem E_K_isWithin_15 (z : xzs) (xs0 : Int32) (h : xH) : xle (D_K_isWithin_15 z xs0 h) (B_K_isWithin_15 z xs0 h) := by
  unfold D_K_isWithin_15 B_K_isWithin_15
  exact xle_zret rfl rfl rfl
noncomputable def D_K_isAddress_0 (z : xzs) (p0 : Int32) (h : xH) : Option xR :=
  xclI (f_K_isWithin z [.int p0, .int (Int32.ofInt 0), .int ((Int8.ofInt 71).toInt32)] h) fun x2 h1 =>
  if x2 = 0 ∨ x2 = 1 then some (.inl (some (.int x2)), h1) else none
theorem E_K_isAddress (z : xzs) (p0 : Int32) (h : xH) : xle (D_K_isAddress_0 z p0 h) (xfun (K_K_isAddress z) 1 [.int p0] h) := by
  unfold D_K_isAddress_0
  refine xle_entry (Nat.le_of_ble_eq_true rfl) (xal_c (xca_i _) (rfl)) ?_
  show xle _ (xev (K_K_isAddress z) (0, [(0, .int p0)], [], h))
  refine xle_next (i := .iload_n 0) (x' := (1, [(0, .int p0)], [.int p0], h)) rfl rfl rfl ?_
  refine xle_next (i := .iconst 0) (x' := (2, [(0, .int p0)], [.int (Int32.ofInt 0), .int p0], h)) rfl rfl rfl ?_
  refine xle_next (i := .bipush 71) (x' := (4, [(0, .int p0)], [.int ((Int8.ofInt 71).toInt32), .int (Int32.ofInt 0), .int p0], h)) rfl rfl rfl ?_
  refine xle_clI (i := .invokestatic 72) (fo := f_K_isWithin z [.int p0, .int (Int32.ofInt 0), .int ((Int8.ofInt 71).toInt32)] h) (t := []) rfl rfl rfl (fun x2 h1 => ?_)
  exact xle_zret rfl rfl rfl
noncomputable def D_K_needNumbers_0 (z : xzs) (p0 : Int32) (h : xH) : Option xR :=
  if ¬ p0 = 0 then
    some (.inl none, h)
  else
    xlet (xn h) (xpush h 6 (.inr (8, [.null, .null, .int 0, .null, .null, .null]))) fun a1 h2 =>
    xclC (f_X_arg z [.ref a1] h2) fun h3 =>
    some (.inr a1, h3)
theorem E_K_needNumbers (z : xzs) (p0 : Int32) (h : xH) : xle (D_K_needNumbers_0 z p0 h) (xfun (K_K_needNumbers z) 1 [.int p0] h) := by
  unfold D_K_needNumbers_0
  refine xle_entry (Nat.le_of_ble_eq_true rfl) (xal_c (xca_i _) (rfl)) ?_
  show xle _ (xev (K_K_needNumbers z) (0, [(0, .int p0)], [], h))
  refine xle_next (i := .iload_n 0) (x' := (1, [(0, .int p0)], [.int p0], h)) rfl rfl rfl ?_
  refine xle_if (cd := .ne) (q := 12) rfl rfl rfl xc_ne (fun _ => ?_) (fun _ => ?_)
  · exact xle_end (i := .return_) rfl rfl rfl
  · refine xle_new (i := .new 273) (pc' := 7) (h' := xpush h 6 (.inr (8, [.null, .null, .int 0, .null, .null, .null]))) rfl rfl rfl (fun a1 h2 => ?_)
    refine xle_next (i := .dup) (x' := (8, [(0, .int p0)], [.ref a1, .ref a1], h2)) rfl rfl rfl ?_
    refine xle_clC (i := .invokespecial 275) (fo := f_X_arg z [.ref a1] h2) (t := [.ref a1]) rfl rfl rfl (fun h3 => ?_)
    exact xle_end (i := .athrow) rfl rfl rfl
noncomputable def B_K_reach_56 (z : xzs)  (h : xH) : Option xR := xev (K_K_reach z) (56, [], [], h)
noncomputable def B_K_reach_57 (z : xzs) (rs0 : Option Nat) (h : xH) : Option xR := xev (K_K_reach z) (57, [], [va_rf rs0], h)
noncomputable def D_K_reach_0 (z : xzs) (p0 : Option Nat) (p1 : Int32) (h : xH) : Option xR :=
  xclI (f_K_isAddress z [.int p1] h) fun x2 h1 =>
  if ¬ x2 = 0 then
    if ((Int8.ofInt 8).toInt32) ≤ p1 then
      p0.bind fun a3 =>
      (rdR h1 a3 2 1).bind fun r4 =>
      r4.bind fun a5 =>
      (xisO h1 a5 5).bind fun _ => xclR (f_T_held z [.ref a5, .int ((p1 / ((Int8.ofInt 8).toInt32)) - (Int32.ofInt 1))] h1) fun r7 h6 =>
      xcase r7 (
        B_K_reach_56 z h6
      ) fun a8 =>
        (rdR h6 a8 1 0).bind fun r9 =>
        r9.bind fun a10 =>
        (rdI h6 a10 5 0).bind fun x11 =>
        if ¬ x11 = (Int32.ofInt 3) then
          B_K_reach_56 z h6
        else
          (rdR h6 a8 1 0).bind fun r12 =>
          B_K_reach_57 z r12 h6
    else
      p0.bind fun a13 =>
      (rdR h1 a13 2 1).bind fun r14 =>
      some (.inl (some (va_rf r14)), h1)
  else
    some (.inl (some (va_rf none)), h1)
theorem E_K_reach (z : xzs) (p0 : Option Nat) (p1 : Int32) (h : xH) : xle (D_K_reach_0 z p0 p1 h) (xfun (K_K_reach z) 3 [va_rf p0, .int p1] h) := by
  unfold D_K_reach_0
  refine xle_entry (Nat.le_of_ble_eq_true rfl) (xal_c (xca_r _) (xal_c (xca_i _) (rfl))) ?_
  show xle _ (xev (K_K_reach z) (0, [(0, va_rf p0), (1, .int p1)], [], h))
  refine xle_next (i := .iload_n 1) (x' := (1, [(0, va_rf p0), (1, .int p1)], [.int p1], h)) rfl rfl rfl ?_
  refine xle_clI (i := .invokestatic 68) (fo := f_K_isAddress z [.int p1] h) (t := []) rfl rfl rfl (fun x2 h1 => ?_)
  refine xle_if (cd := .ne) (q := 9) rfl rfl rfl xc_ne (fun _ => ?_) (fun _ => ?_)
  · refine xle_next (i := .iload_n 1) (x' := (10, [(0, va_rf p0), (1, .int p1)], [.int p1], h1)) rfl rfl rfl ?_
    refine xle_next (i := .bipush 8) (x' := (12, [(0, va_rf p0), (1, .int p1)], [.int ((Int8.ofInt 8).toInt32), .int p1], h1)) rfl rfl rfl ?_
    refine xle_icmp (cd := .ge) (q := 20) rfl rfl rfl xc_ge (fun _ => ?_) (fun _ => ?_)
    · refine xle_aldn (k := 0) (r := p0) rfl rfl rfl ?_
      refine xle_some (fun r_ => (21, [(0, va_rf r_), (1, .int p1)], [va_rf r_], h1)) (fun a3 => ?_)
      refine xle_getR (f := (2, 1, .object "CapKernel$Thing", 0)) rfl rfl rfl (fun r4 => ?_)
      refine xle_next (i := .iload_n 1) (x' := (25, [(0, .ref a3), (1, .int p1)], [.int p1, va_rf r4], h1)) rfl rfl rfl ?_
      refine xle_next (i := .bipush 8) (x' := (27, [(0, .ref a3), (1, .int p1)], [.int ((Int8.ofInt 8).toInt32), .int p1, va_rf r4], h1)) rfl rfl rfl ?_
      refine xle_next (i := .idiv) (x' := (28, [(0, .ref a3), (1, .int p1)], [.int (p1 / ((Int8.ofInt 8).toInt32)), va_rf r4], h1)) rfl rfl rfl ?_
      refine xle_next (i := .iconst 1) (x' := (29, [(0, .ref a3), (1, .int p1)], [.int (Int32.ofInt 1), .int (p1 / ((Int8.ofInt 8).toInt32)), va_rf r4], h1)) rfl rfl rfl ?_
      refine xle_next (i := .isub) (x' := (30, [(0, .ref a3), (1, .int p1)], [.int ((p1 / ((Int8.ofInt 8).toInt32)) - (Int32.ofInt 1)), va_rf r4], h1)) rfl rfl rfl ?_
      refine xle_some (fun r_ => (30, [(0, .ref a3), (1, .int p1)], [.int ((p1 / ((Int8.ofInt 8).toInt32)) - (Int32.ofInt 1)), va_rf r_], h1)) (fun a5 => ?_)
      refine xle_isO (i := .invokevirtual 279) (bq := a5) (ci := 5) (fo := (f_T_held z [.ref a5, .int ((p1 / ((Int8.ofInt 8).toInt32)) - (Int32.ofInt 1))] h1).bind (xback 30 [(0, .ref a3), (1, .int p1)] [])) rfl rfl rfl (fun hs => ?_)
      refine xle_clR (t := []) rfl rfl hs (fun r7 h6 => ?_)
      refine xle_astn (k := 2) (r := r7) (L' := [(0, .ref a3), (1, .int p1), (2, va_rf r7)]) rfl rfl rfl ?_
      refine xle_aldn (k := 2) (r := r7) rfl rfl rfl ?_
      refine xle_case (fun r_ => (35, [(0, .ref a3), (1, .int p1), (2, va_rf r_)], [va_rf r_], h6)) ?_ (fun a8 => ?_)
      · refine xle_next (i := .ifnull 21) (x' := (56, [(0, .ref a3), (1, .int p1), (2, .null)], [], h6)) rfl rfl rfl ?_
        exact xle_jump rfl
      · refine xle_next (i := .ifnull 21) (x' := (38, [(0, .ref a3), (1, .int p1), (2, .ref a8)], [], h6)) rfl rfl rfl ?_
        refine xle_next (i := .aload_n 2) (x' := (39, [(0, .ref a3), (1, .int p1), (2, .ref a8)], [.ref a8], h6)) rfl rfl rfl ?_
        refine xle_getR (f := (1, 0, .object "CapKernel$Thing", 0)) rfl rfl rfl (fun r9 => ?_)
        refine xle_some (fun r_ => (42, [(0, .ref a3), (1, .int p1), (2, .ref a8)], [va_rf r_], h6)) (fun a10 => ?_)
        refine xle_getI (f := (5, 0, .int, 0)) rfl rfl rfl (fun x11 => ?_)
        refine xle_next (i := .iconst 3) (x' := (46, [(0, .ref a3), (1, .int p1), (2, .ref a8)], [.int (Int32.ofInt 3), .int x11], h6)) rfl rfl rfl ?_
        refine xle_icmp (cd := .ne) (q := 56) rfl rfl rfl xc_ne (fun _ => ?_) (fun _ => ?_)
        · exact xle_jump rfl
        · refine xle_next (i := .aload_n 2) (x' := (50, [(0, .ref a3), (1, .int p1), (2, .ref a8)], [.ref a8], h6)) rfl rfl rfl ?_
          refine xle_getR (f := (1, 0, .object "CapKernel$Thing", 0)) rfl rfl rfl (fun r12 => ?_)
          refine xle_next (i := .goto 4) (x' := (57, [(0, .ref a3), (1, .int p1), (2, .ref a8)], [va_rf r12], h6)) rfl rfl rfl ?_
          exact xle_jump rfl
    · refine xle_aldn (k := 0) (r := p0) rfl rfl rfl ?_
      refine xle_some (fun r_ => (16, [(0, va_rf r_), (1, .int p1)], [va_rf r_], h1)) (fun a13 => ?_)
      refine xle_getR (f := (2, 1, .object "CapKernel$Thing", 0)) rfl rfl rfl (fun r14 => ?_)
      exact xle_aret (r := r14) rfl rfl rfl rfl
  · refine xle_next (i := .aconst_null) (x' := (8, [(0, va_rf p0), (1, .int p1)], [.null], h1)) rfl rfl rfl ?_
    exact xle_aret (r := none) rfl rfl rfl rfl
noncomputable def D_K_reach_56 (z : xzs)  (h : xH) : Option xR :=
  B_K_reach_57 z none h
theorem E_K_reach_56 (z : xzs)  (h : xH) : xle (D_K_reach_56 z  h) (B_K_reach_56 z  h) := by
  unfold D_K_reach_56 B_K_reach_56
  refine xle_next (i := .aconst_null) (x' := (57, [], [.null], h)) rfl rfl rfl ?_
  exact xle_jump rfl
noncomputable def D_K_reach_57 (z : xzs) (rs0 : Option Nat) (h : xH) : Option xR :=
  some (.inl (some (va_rf rs0)), h)
theorem E_K_reach_57 (z : xzs) (rs0 : Option Nat) (h : xH) : xle (D_K_reach_57 z rs0 h) (B_K_reach_57 z rs0 h) := by
  unfold D_K_reach_57 B_K_reach_57
  exact xle_aret (r := rs0) rfl rfl rfl rfl
noncomputable def D_K_tableAt_0 (z : xzs) (p0 : Option Nat) (p1 : Int32) (h : xH) : Option xR :=
  xclR (f_K_reach z [va_rf p0, .int p1] h) fun r2 h1 =>
  xcase r2 (
    xlet (xn h1) (xpush h1 6 (.inr (9, [.null, .null, .int 0, .null, .null, .null]))) fun a4 h5 =>
    xclC (f_X_elem z [.ref a4] h5) fun h6 =>
    some (.inr a4, h6)
  ) fun a3 =>
    some (.inl (some (va_rf (some a3))), h1)
theorem E_K_tableAt (z : xzs) (p0 : Option Nat) (p1 : Int32) (h : xH) : xle (D_K_tableAt_0 z p0 p1 h) (xfun (K_K_tableAt z) 3 [va_rf p0, .int p1] h) := by
  unfold D_K_tableAt_0
  refine xle_entry (Nat.le_of_ble_eq_true rfl) (xal_c (xca_r _) (xal_c (xca_i _) (rfl))) ?_
  show xle _ (xev (K_K_tableAt z) (0, [(0, va_rf p0), (1, .int p1)], [], h))
  refine xle_aldn (k := 0) (r := p0) rfl rfl rfl ?_
  refine xle_next (i := .iload_n 1) (x' := (2, [(0, va_rf p0), (1, .int p1)], [.int p1, va_rf p0], h)) rfl rfl rfl ?_
  refine xle_clR (i := .invokestatic 283) (fo := f_K_reach z [va_rf p0, .int p1] h) (t := []) rfl rfl rfl (fun r2 h1 => ?_)
  refine xle_astn (k := 2) (r := r2) (L' := [(0, va_rf p0), (1, .int p1), (2, va_rf r2)]) rfl rfl rfl ?_
  refine xle_aldn (k := 2) (r := r2) rfl rfl rfl ?_
  refine xle_case (fun r_ => (7, [(0, va_rf p0), (1, .int p1), (2, va_rf r_)], [va_rf r_], h1)) ?_ (fun a3 => ?_)
  · refine xle_next (i := .ifnonnull 11) (x' := (10, [(0, va_rf p0), (1, .int p1), (2, .null)], [], h1)) rfl rfl rfl ?_
    refine xle_new (i := .new 286) (pc' := 13) (h' := xpush h1 6 (.inr (9, [.null, .null, .int 0, .null, .null, .null]))) rfl rfl rfl (fun a4 h5 => ?_)
    refine xle_next (i := .dup) (x' := (14, [(0, va_rf p0), (1, .int p1), (2, .null)], [.ref a4, .ref a4], h5)) rfl rfl rfl ?_
    refine xle_clC (i := .invokespecial 288) (fo := f_X_elem z [.ref a4] h5) (t := [.ref a4]) rfl rfl rfl (fun h6 => ?_)
    exact xle_end (i := .athrow) rfl rfl rfl
  · refine xle_next (i := .ifnonnull 11) (x' := (18, [(0, va_rf p0), (1, .int p1), (2, .ref a3)], [], h1)) rfl rfl rfl ?_
    refine xle_next (i := .aload_n 2) (x' := (19, [(0, va_rf p0), (1, .int p1), (2, .ref a3)], [.ref a3], h1)) rfl rfl rfl ?_
    exact xle_aret (r := (some a3)) rfl rfl rfl rfl
noncomputable def D_K_slotOf_0 (z : xzs) (p0 : Int32) (h : xH) : Option xR :=
  some (.inl (some (.int (p0 - p0 / ((Int8.ofInt 8).toInt32) * ((Int8.ofInt 8).toInt32)))), h)
theorem E_K_slotOf (z : xzs) (p0 : Int32) (h : xH) : xle (D_K_slotOf_0 z p0 h) (xfun (K_K_slotOf z) 1 [.int p0] h) := by
  unfold D_K_slotOf_0
  refine xle_entry (Nat.le_of_ble_eq_true rfl) (xal_c (xca_i _) (rfl)) ?_
  show xle _ (xev (K_K_slotOf z) (0, [(0, .int p0)], [], h))
  refine xle_next (i := .iload_n 0) (x' := (1, [(0, .int p0)], [.int p0], h)) rfl rfl rfl ?_
  refine xle_next (i := .bipush 8) (x' := (3, [(0, .int p0)], [.int ((Int8.ofInt 8).toInt32), .int p0], h)) rfl rfl rfl ?_
  refine xle_next (i := .irem) (x' := (4, [(0, .int p0)], [.int (p0 - p0 / ((Int8.ofInt 8).toInt32) * ((Int8.ofInt 8).toInt32))], h)) rfl rfl rfl ?_
  exact xle_end (i := .ireturn) rfl rfl rfl
noncomputable def D_K_capabilityAt_0 (z : xzs) (p0 : Option Nat) (p1 : Int32) (h : xH) : Option xR :=
  xclR (f_K_tableAt z [va_rf p0, .int p1] h) fun r2 h1 =>
  xclI (f_K_slotOf z [.int p1] h1) fun x4 h3 =>
  r2.bind fun a5 =>
  (xisO h3 a5 5).bind fun _ => xclR (f_T_held z [.ref a5, .int x4] h3) fun r7 h6 =>
  xcase r7 (
    xlet (xn h6) (xpush h6 6 (.inr (9, [.null, .null, .int 0, .null, .null, .null]))) fun a9 h10 =>
    xclC (f_X_elem z [.ref a9] h10) fun h11 =>
    some (.inr a9, h11)
  ) fun a8 =>
    some (.inl (some (va_rf (some a8))), h6)
theorem E_K_capabilityAt (z : xzs) (p0 : Option Nat) (p1 : Int32) (h : xH) : xle (D_K_capabilityAt_0 z p0 p1 h) (xfun (K_K_capabilityAt z) 3 [va_rf p0, .int p1] h) := by
  unfold D_K_capabilityAt_0
  refine xle_entry (Nat.le_of_ble_eq_true rfl) (xal_c (xca_r _) (xal_c (xca_i _) (rfl))) ?_
  show xle _ (xev (K_K_capabilityAt z) (0, [(0, va_rf p0), (1, .int p1)], [], h))
  refine xle_aldn (k := 0) (r := p0) rfl rfl rfl ?_
  refine xle_next (i := .iload_n 1) (x' := (2, [(0, va_rf p0), (1, .int p1)], [.int p1, va_rf p0], h)) rfl rfl rfl ?_
  refine xle_clR (i := .invokestatic 84) (fo := f_K_tableAt z [va_rf p0, .int p1] h) (t := []) rfl rfl rfl (fun r2 h1 => ?_)
  refine xle_next (i := .iload_n 1) (x' := (6, [(0, va_rf p0), (1, .int p1)], [.int p1, va_rf r2], h1)) rfl rfl rfl ?_
  refine xle_clI (i := .invokestatic 88) (fo := f_K_slotOf z [.int p1] h1) (t := [va_rf r2]) rfl rfl rfl (fun x4 h3 => ?_)
  refine xle_some (fun r_ => (9, [(0, va_rf p0), (1, .int p1)], [.int x4, va_rf r_], h3)) (fun a5 => ?_)
  refine xle_isO (i := .invokevirtual 279) (bq := a5) (ci := 5) (fo := (f_T_held z [.ref a5, .int x4] h3).bind (xback 9 [(0, va_rf p0), (1, .int p1)] [])) rfl rfl rfl (fun hs => ?_)
  refine xle_clR (t := []) rfl rfl hs (fun r7 h6 => ?_)
  refine xle_astn (k := 2) (r := r7) (L' := [(0, va_rf p0), (1, .int p1), (2, va_rf r7)]) rfl rfl rfl ?_
  refine xle_aldn (k := 2) (r := r7) rfl rfl rfl ?_
  refine xle_case (fun r_ => (14, [(0, va_rf p0), (1, .int p1), (2, va_rf r_)], [va_rf r_], h6)) ?_ (fun a8 => ?_)
  · refine xle_next (i := .ifnonnull 11) (x' := (17, [(0, va_rf p0), (1, .int p1), (2, .null)], [], h6)) rfl rfl rfl ?_
    refine xle_new (i := .new 286) (pc' := 20) (h' := xpush h6 6 (.inr (9, [.null, .null, .int 0, .null, .null, .null]))) rfl rfl rfl (fun a9 h10 => ?_)
    refine xle_next (i := .dup) (x' := (21, [(0, va_rf p0), (1, .int p1), (2, .null)], [.ref a9, .ref a9], h10)) rfl rfl rfl ?_
    refine xle_clC (i := .invokespecial 288) (fo := f_X_elem z [.ref a9] h10) (t := [.ref a9]) rfl rfl rfl (fun h11 => ?_)
    exact xle_end (i := .athrow) rfl rfl rfl
  · refine xle_next (i := .ifnonnull 11) (x' := (25, [(0, va_rf p0), (1, .int p1), (2, .ref a8)], [], h6)) rfl rfl rfl ?_
    refine xle_next (i := .aload_n 2) (x' := (26, [(0, va_rf p0), (1, .int p1), (2, .ref a8)], [.ref a8], h6)) rfl rfl rfl ?_
    exact xle_aret (r := (some a8)) rfl rfl rfl rfl
noncomputable def D_K_needState_0 (z : xzs) (p0 : Int32) (h : xH) : Option xR :=
  if ¬ p0 = 0 then
    some (.inl none, h)
  else
    xlet (xn h) (xpush h 6 (.inr (11, [.null, .null, .int 0, .null, .null, .null]))) fun a1 h2 =>
    xclC (f_X_state z [.ref a1] h2) fun h3 =>
    some (.inr a1, h3)
theorem E_K_needState (z : xzs) (p0 : Int32) (h : xH) : xle (D_K_needState_0 z p0 h) (xfun (K_K_needState z) 1 [.int p0] h) := by
  unfold D_K_needState_0
  refine xle_entry (Nat.le_of_ble_eq_true rfl) (xal_c (xca_i _) (rfl)) ?_
  show xle _ (xev (K_K_needState z) (0, [(0, .int p0)], [], h))
  refine xle_next (i := .iload_n 0) (x' := (1, [(0, .int p0)], [.int p0], h)) rfl rfl rfl ?_
  refine xle_if (cd := .ne) (q := 12) rfl rfl rfl xc_ne (fun _ => ?_) (fun _ => ?_)
  · exact xle_end (i := .return_) rfl rfl rfl
  · refine xle_new (i := .new 208) (pc' := 7) (h' := xpush h 6 (.inr (11, [.null, .null, .int 0, .null, .null, .null]))) rfl rfl rfl (fun a1 h2 => ?_)
    refine xle_next (i := .dup) (x' := (8, [(0, .int p0)], [.ref a1, .ref a1], h2)) rfl rfl rfl ?_
    refine xle_clC (i := .invokespecial 210) (fo := f_X_state z [.ref a1] h2) (t := [.ref a1]) rfl rfl rfl (fun h3 => ?_)
    exact xle_end (i := .athrow) rfl rfl rfl
noncomputable def D_K_derive_0 (z : xzs) (a0 : Nat) (p1 : Option Nat) (p2 : Int32) (p3 : Int32) (p4 : Option Nat) (p5 : Int32) (h : xH) : Option xR :=
  xlet (xn h) (xpush h 7 (.inr (1, [.null, .int 0, .int 0, .null, .null, .int 0, .int 0]))) fun a1 h2 =>
  p1.bind fun a3 =>
  (rdR h2 a3 1 0).bind fun r4 =>
  (rdI h2 a3 1 1).bind fun x5 =>
  xclC (f_C_new z [.ref a1, va_rf r4, .int (x5 &&& p2), .int p3, .ref a3] h2) fun h6 =>
  (xisO h6 a0 0).bind fun _ => xclV (f_K_put z [.ref a0, .ref a1, va_rf p4, .int p5] h6) fun h7 =>
  (rdI h7 a1 1 1).bind fun x8 =>
  some (.inl (some (.int x8)), h7)
theorem E_K_derive (z : xzs) (a0 : Nat) (p1 : Option Nat) (p2 : Int32) (p3 : Int32) (p4 : Option Nat) (p5 : Int32) (h : xH) : xle (D_K_derive_0 z a0 p1 p2 p3 p4 p5 h) (xfun (K_K_derive z) 7 [.ref a0, va_rf p1, .int p2, .int p3, va_rf p4, .int p5] h) := by
  unfold D_K_derive_0
  refine xle_entry (Nat.le_of_ble_eq_true rfl) (xal_c (xca_a _) (xal_c (xca_r _) (xal_c (xca_i _) (xal_c (xca_i _) (xal_c (xca_r _) (xal_c (xca_i _) (rfl))))))) ?_
  show xle _ (xev (K_K_derive z) (0, [(0, .ref a0), (1, va_rf p1), (2, .int p2), (3, .int p3), (4, va_rf p4), (5, .int p5)], [], h))
  refine xle_new (i := .new 49) (pc' := 3) (h' := xpush h 7 (.inr (1, [.null, .int 0, .int 0, .null, .null, .int 0, .int 0]))) rfl rfl rfl (fun a1 h2 => ?_)
  refine xle_next (i := .dup) (x' := (4, [(0, .ref a0), (1, va_rf p1), (2, .int p2), (3, .int p3), (4, va_rf p4), (5, .int p5)], [.ref a1, .ref a1], h2)) rfl rfl rfl ?_
  refine xle_aldn (k := 1) (r := p1) rfl rfl rfl ?_
  refine xle_some (fun r_ => (5, [(0, .ref a0), (1, va_rf r_), (2, .int p2), (3, .int p3), (4, va_rf p4), (5, .int p5)], [va_rf r_, .ref a1, .ref a1], h2)) (fun a3 => ?_)
  refine xle_getR (f := (1, 0, .object "CapKernel$Thing", 0)) rfl rfl rfl (fun r4 => ?_)
  refine xle_next (i := .aload_n 1) (x' := (9, [(0, .ref a0), (1, .ref a3), (2, .int p2), (3, .int p3), (4, va_rf p4), (5, .int p5)], [.ref a3, va_rf r4, .ref a1, .ref a1], h2)) rfl rfl rfl ?_
  refine xle_getI (f := (1, 1, .int, 0)) rfl rfl rfl (fun x5 => ?_)
  refine xle_next (i := .iload_n 2) (x' := (13, [(0, .ref a0), (1, .ref a3), (2, .int p2), (3, .int p3), (4, va_rf p4), (5, .int p5)], [.int p2, .int x5, va_rf r4, .ref a1, .ref a1], h2)) rfl rfl rfl ?_
  refine xle_next (i := .iand) (x' := (14, [(0, .ref a0), (1, .ref a3), (2, .int p2), (3, .int p3), (4, va_rf p4), (5, .int p5)], [.int (x5 &&& p2), va_rf r4, .ref a1, .ref a1], h2)) rfl rfl rfl ?_
  refine xle_next (i := .iload_n 3) (x' := (15, [(0, .ref a0), (1, .ref a3), (2, .int p2), (3, .int p3), (4, va_rf p4), (5, .int p5)], [.int p3, .int (x5 &&& p2), va_rf r4, .ref a1, .ref a1], h2)) rfl rfl rfl ?_
  refine xle_next (i := .aload_n 1) (x' := (16, [(0, .ref a0), (1, .ref a3), (2, .int p2), (3, .int p3), (4, va_rf p4), (5, .int p5)], [.ref a3, .int p3, .int (x5 &&& p2), va_rf r4, .ref a1, .ref a1], h2)) rfl rfl rfl ?_
  refine xle_clC (i := .invokespecial 54) (fo := f_C_new z [.ref a1, va_rf r4, .int (x5 &&& p2), .int p3, .ref a3] h2) (t := [.ref a1]) rfl rfl rfl (fun h6 => ?_)
  refine xle_next (i := .astore 6) (x' := (21, [(0, .ref a0), (1, .ref a3), (2, .int p2), (3, .int p3), (4, va_rf p4), (5, .int p5), (6, .ref a1)], [], h6)) rfl rfl rfl ?_
  refine xle_next (i := .aload_n 0) (x' := (22, [(0, .ref a0), (1, .ref a3), (2, .int p2), (3, .int p3), (4, va_rf p4), (5, .int p5), (6, .ref a1)], [.ref a0], h6)) rfl rfl rfl ?_
  refine xle_next (i := .aload 6) (x' := (24, [(0, .ref a0), (1, .ref a3), (2, .int p2), (3, .int p3), (4, va_rf p4), (5, .int p5), (6, .ref a1)], [.ref a1, .ref a0], h6)) rfl rfl rfl ?_
  refine xle_ald (k := 4) (r := p4) rfl rfl rfl ?_
  refine xle_next (i := .iload 5) (x' := (28, [(0, .ref a0), (1, .ref a3), (2, .int p2), (3, .int p3), (4, va_rf p4), (5, .int p5), (6, .ref a1)], [.int p5, va_rf p4, .ref a1, .ref a0], h6)) rfl rfl rfl ?_
  refine xle_isO (i := .invokevirtual 60) (bq := a0) (ci := 0) (fo := (f_K_put z [.ref a0, .ref a1, va_rf p4, .int p5] h6).bind (xback 28 [(0, .ref a0), (1, .ref a3), (2, .int p2), (3, .int p3), (4, va_rf p4), (5, .int p5), (6, .ref a1)] [])) rfl rfl rfl (fun hs => ?_)
  refine xle_clV (t := []) rfl rfl hs (fun h7 => ?_)
  refine xle_next (i := .aload 6) (x' := (33, [(0, .ref a0), (1, .ref a3), (2, .int p2), (3, .int p3), (4, va_rf p4), (5, .int p5), (6, .ref a1)], [.ref a1], h7)) rfl rfl rfl ?_
  refine xle_getI (f := (1, 1, .int, 0)) rfl rfl rfl (fun x8 => ?_)
  exact xle_end (i := .ireturn) rfl rfl rfl
noncomputable def B_K_copy_34 (z : xzs) (a0 : Nat) (xv1 : Int32) (xv2 : Int32) (xv3 : Int32) (rv4 : Option Nat) (h : xH) : Option xR := xev (K_K_copy z) (34, [(0, .ref a0), (1, .int xv1), (2, .int xv2), (3, .int xv3), (4, va_rf rv4)], [], h)
noncomputable def B_K_copy_35 (z : xzs) (a0 : Nat) (xv1 : Int32) (xv2 : Int32) (xv3 : Int32) (rv4 : Option Nat) (xs0 : Int32) (h : xH) : Option xR := xev (K_K_copy z) (35, [(0, .ref a0), (1, .int xv1), (2, .int xv2), (3, .int xv3), (4, va_rf rv4)], [.int xs0], h)
noncomputable def D_K_copy_0 (z : xzs) (a0 : Nat) (p1 : Int32) (p2 : Int32) (p3 : Int32) (h : xH) : Option xR :=
  (xisO h a0 0).bind fun _ => xclR (f_K_actor z [.ref a0] h) fun r2 h1 =>
  xclI (f_K_isAddress z [.int p1] h1) fun x4 h3 =>
  if x4 = 0 then
    B_K_copy_34 z a0 p1 p2 p3 r2 h3
  else
    xclI (f_K_isAddress z [.int p2] h3) fun x6 h5 =>
    if x6 = 0 then
      B_K_copy_34 z a0 p1 p2 p3 r2 h5
    else
      xclI (f_K_isWithin z [.int p3, .int (Int32.ofInt 0), .int ((Int8.ofInt 7).toInt32)] h5) fun x8 h7 =>
      if x8 = 0 then
        B_K_copy_34 z a0 p1 p2 p3 r2 h7
      else
        B_K_copy_35 z a0 p1 p2 p3 r2 (Int32.ofInt 1) h7
theorem E_K_copy (z : xzs) (a0 : Nat) (p1 : Int32) (p2 : Int32) (p3 : Int32) (h : xH) : xle (D_K_copy_0 z a0 p1 p2 p3 h) (xfun (K_K_copy z) 7 [.ref a0, .int p1, .int p2, .int p3] h) := by
  unfold D_K_copy_0
  refine xle_entry (Nat.le_of_ble_eq_true rfl) (xal_c (xca_a _) (xal_c (xca_i _) (xal_c (xca_i _) (xal_c (xca_i _) (rfl))))) ?_
  show xle _ (xev (K_K_copy z) (0, [(0, .ref a0), (1, .int p1), (2, .int p2), (3, .int p3)], [], h))
  refine xle_next (i := .aload_n 0) (x' := (1, [(0, .ref a0), (1, .int p1), (2, .int p2), (3, .int p3)], [.ref a0], h)) rfl rfl rfl ?_
  refine xle_isO (i := .invokevirtual 64) (bq := a0) (ci := 0) (fo := (f_K_actor z [.ref a0] h).bind (xback 1 [(0, .ref a0), (1, .int p1), (2, .int p2), (3, .int p3)] [])) rfl rfl rfl (fun hs => ?_)
  refine xle_clR (t := []) rfl rfl hs (fun r2 h1 => ?_)
  refine xle_ast (k := 4) (r := r2) (L' := [(0, .ref a0), (1, .int p1), (2, .int p2), (3, .int p3), (4, va_rf r2)]) rfl rfl rfl ?_
  refine xle_next (i := .iload_n 1) (x' := (7, [(0, .ref a0), (1, .int p1), (2, .int p2), (3, .int p3), (4, va_rf r2)], [.int p1], h1)) rfl rfl rfl ?_
  refine xle_clI (i := .invokestatic 68) (fo := f_K_isAddress z [.int p1] h1) (t := []) rfl rfl rfl (fun x4 h3 => ?_)
  refine xle_if (cd := .eq) (q := 34) rfl rfl rfl xc_eq (fun _ => ?_) (fun _ => ?_)
  · exact xle_jump rfl
  · refine xle_next (i := .iload_n 2) (x' := (14, [(0, .ref a0), (1, .int p1), (2, .int p2), (3, .int p3), (4, va_rf r2)], [.int p2], h3)) rfl rfl rfl ?_
    refine xle_clI (i := .invokestatic 68) (fo := f_K_isAddress z [.int p2] h3) (t := []) rfl rfl rfl (fun x6 h5 => ?_)
    refine xle_if (cd := .eq) (q := 34) rfl rfl rfl xc_eq (fun _ => ?_) (fun _ => ?_)
    · exact xle_jump rfl
    · refine xle_next (i := .iload_n 3) (x' := (21, [(0, .ref a0), (1, .int p1), (2, .int p2), (3, .int p3), (4, va_rf r2)], [.int p3], h5)) rfl rfl rfl ?_
      refine xle_next (i := .iconst 0) (x' := (22, [(0, .ref a0), (1, .int p1), (2, .int p2), (3, .int p3), (4, va_rf r2)], [.int (Int32.ofInt 0), .int p3], h5)) rfl rfl rfl ?_
      refine xle_next (i := .bipush 7) (x' := (24, [(0, .ref a0), (1, .int p1), (2, .int p2), (3, .int p3), (4, va_rf r2)], [.int ((Int8.ofInt 7).toInt32), .int (Int32.ofInt 0), .int p3], h5)) rfl rfl rfl ?_
      refine xle_clI (i := .invokestatic 72) (fo := f_K_isWithin z [.int p3, .int (Int32.ofInt 0), .int ((Int8.ofInt 7).toInt32)] h5) (t := []) rfl rfl rfl (fun x8 h7 => ?_)
      refine xle_if (cd := .eq) (q := 34) rfl rfl rfl xc_eq (fun _ => ?_) (fun _ => ?_)
      · exact xle_jump rfl
      · refine xle_next (i := .iconst 1) (x' := (31, [(0, .ref a0), (1, .int p1), (2, .int p2), (3, .int p3), (4, va_rf r2)], [.int (Int32.ofInt 1)], h7)) rfl rfl rfl ?_
        refine xle_next (i := .goto 4) (x' := (35, [(0, .ref a0), (1, .int p1), (2, .int p2), (3, .int p3), (4, va_rf r2)], [.int (Int32.ofInt 1)], h7)) rfl rfl rfl ?_
        exact xle_jump rfl
noncomputable def D_K_copy_34 (z : xzs) (a0 : Nat) (xv1 : Int32) (xv2 : Int32) (xv3 : Int32) (rv4 : Option Nat) (h : xH) : Option xR :=
  B_K_copy_35 z a0 xv1 xv2 xv3 rv4 (Int32.ofInt 0) h
theorem E_K_copy_34 (z : xzs) (a0 : Nat) (xv1 : Int32) (xv2 : Int32) (xv3 : Int32) (rv4 : Option Nat) (h : xH) : xle (D_K_copy_34 z a0 xv1 xv2 xv3 rv4 h) (B_K_copy_34 z a0 xv1 xv2 xv3 rv4 h) := by
  unfold D_K_copy_34 B_K_copy_34
  refine xle_next (i := .iconst 0) (x' := (35, [(0, .ref a0), (1, .int xv1), (2, .int xv2), (3, .int xv3), (4, va_rf rv4)], [.int (Int32.ofInt 0)], h)) rfl rfl rfl ?_
  exact xle_jump rfl
noncomputable def D_K_copy_35 (z : xzs) (a0 : Nat) (xv1 : Int32) (xv2 : Int32) (xv3 : Int32) (rv4 : Option Nat) (xs0 : Int32) (h : xH) : Option xR :=
  xclV (f_K_needNumbers z [.int xs0] h) fun h9 =>
  xclR (f_K_capabilityAt z [va_rf rv4, .int xv1] h9) fun r11 h10 =>
  xclR (f_K_tableAt z [va_rf rv4, .int xv2] h10) fun r13 h12 =>
  xclI (f_K_slotOf z [.int xv2] h12) fun x15 h14 =>
  r13.bind fun a16 =>
  (xisO h14 a16 5).bind fun _ => xclI (f_T_isFree z [.ref a16, .int x15] h14) fun x18 h17 =>
  xclV (f_K_needState z [.int x18] h17) fun h19 =>
  r11.bind fun a20 =>
  (rdI h19 a20 1 2).bind fun x21 =>
  xclI (f_K_slotOf z [.int xv2] h19) fun x23 h22 =>
  (xisO h22 a0 0).bind fun _ => xclI (f_K_derive z [.ref a0, .ref a20, .int xv3, .int x21, .ref a16, .int x23] h22) fun x25 h24 =>
  some (.inl (some (.int x25)), h24)
theorem E_K_copy_35 (z : xzs) (a0 : Nat) (xv1 : Int32) (xv2 : Int32) (xv3 : Int32) (rv4 : Option Nat) (xs0 : Int32) (h : xH) : xle (D_K_copy_35 z a0 xv1 xv2 xv3 rv4 xs0 h) (B_K_copy_35 z a0 xv1 xv2 xv3 rv4 xs0 h) := by
  unfold D_K_copy_35 B_K_copy_35
  refine xle_clV (i := .invokestatic 76) (fo := f_K_needNumbers z [.int xs0] h) (t := []) rfl rfl rfl (fun h9 => ?_)
  refine xle_ald (k := 4) (r := rv4) rfl rfl rfl ?_
  refine xle_next (i := .iload_n 1) (x' := (41, [(0, .ref a0), (1, .int xv1), (2, .int xv2), (3, .int xv3), (4, va_rf rv4)], [.int xv1, va_rf rv4], h9)) rfl rfl rfl ?_
  refine xle_clR (i := .invokestatic 80) (fo := f_K_capabilityAt z [va_rf rv4, .int xv1] h9) (t := []) rfl rfl rfl (fun r11 h10 => ?_)
  refine xle_ast (k := 5) (r := r11) (L' := [(0, .ref a0), (1, .int xv1), (2, .int xv2), (3, .int xv3), (4, va_rf rv4), (5, va_rf r11)]) rfl rfl rfl ?_
  refine xle_ald (k := 4) (r := rv4) rfl rfl rfl ?_
  refine xle_next (i := .iload_n 2) (x' := (49, [(0, .ref a0), (1, .int xv1), (2, .int xv2), (3, .int xv3), (4, va_rf rv4), (5, va_rf r11)], [.int xv2, va_rf rv4], h10)) rfl rfl rfl ?_
  refine xle_clR (i := .invokestatic 84) (fo := f_K_tableAt z [va_rf rv4, .int xv2] h10) (t := []) rfl rfl rfl (fun r13 h12 => ?_)
  refine xle_ast (k := 6) (r := r13) (L' := [(0, .ref a0), (1, .int xv1), (2, .int xv2), (3, .int xv3), (4, va_rf rv4), (5, va_rf r11), (6, va_rf r13)]) rfl rfl rfl ?_
  refine xle_ald (k := 6) (r := r13) rfl rfl rfl ?_
  refine xle_next (i := .iload_n 2) (x' := (57, [(0, .ref a0), (1, .int xv1), (2, .int xv2), (3, .int xv3), (4, va_rf rv4), (5, va_rf r11), (6, va_rf r13)], [.int xv2, va_rf r13], h12)) rfl rfl rfl ?_
  refine xle_clI (i := .invokestatic 88) (fo := f_K_slotOf z [.int xv2] h12) (t := [va_rf r13]) rfl rfl rfl (fun x15 h14 => ?_)
  refine xle_some (fun r_ => (60, [(0, .ref a0), (1, .int xv1), (2, .int xv2), (3, .int xv3), (4, va_rf rv4), (5, va_rf r11), (6, va_rf r_)], [.int x15, va_rf r_], h14)) (fun a16 => ?_)
  refine xle_isO (i := .invokevirtual 92) (bq := a16) (ci := 5) (fo := (f_T_isFree z [.ref a16, .int x15] h14).bind (xback 60 [(0, .ref a0), (1, .int xv1), (2, .int xv2), (3, .int xv3), (4, va_rf rv4), (5, va_rf r11), (6, .ref a16)] [])) rfl rfl rfl (fun hs => ?_)
  refine xle_clI (t := []) rfl rfl hs (fun x18 h17 => ?_)
  refine xle_clV (i := .invokestatic 95) (fo := f_K_needState z [.int x18] h17) (t := []) rfl rfl rfl (fun h19 => ?_)
  refine xle_next (i := .aload_n 0) (x' := (67, [(0, .ref a0), (1, .int xv1), (2, .int xv2), (3, .int xv3), (4, va_rf rv4), (5, va_rf r11), (6, .ref a16)], [.ref a0], h19)) rfl rfl rfl ?_
  refine xle_ald (k := 5) (r := r11) rfl rfl rfl ?_
  refine xle_next (i := .iload_n 3) (x' := (70, [(0, .ref a0), (1, .int xv1), (2, .int xv2), (3, .int xv3), (4, va_rf rv4), (5, va_rf r11), (6, .ref a16)], [.int xv3, va_rf r11, .ref a0], h19)) rfl rfl rfl ?_
  refine xle_ald (k := 5) (r := r11) rfl rfl rfl ?_
  refine xle_some (fun r_ => (72, [(0, .ref a0), (1, .int xv1), (2, .int xv2), (3, .int xv3), (4, va_rf rv4), (5, va_rf r_), (6, .ref a16)], [va_rf r_, .int xv3, va_rf r_, .ref a0], h19)) (fun a20 => ?_)
  refine xle_getI (f := (1, 2, .int, 0)) rfl rfl rfl (fun x21 => ?_)
  refine xle_next (i := .aload 6) (x' := (77, [(0, .ref a0), (1, .int xv1), (2, .int xv2), (3, .int xv3), (4, va_rf rv4), (5, .ref a20), (6, .ref a16)], [.ref a16, .int x21, .int xv3, .ref a20, .ref a0], h19)) rfl rfl rfl ?_
  refine xle_next (i := .iload_n 2) (x' := (78, [(0, .ref a0), (1, .int xv1), (2, .int xv2), (3, .int xv3), (4, va_rf rv4), (5, .ref a20), (6, .ref a16)], [.int xv2, .ref a16, .int x21, .int xv3, .ref a20, .ref a0], h19)) rfl rfl rfl ?_
  refine xle_clI (i := .invokestatic 88) (fo := f_K_slotOf z [.int xv2] h19) (t := [.ref a16, .int x21, .int xv3, .ref a20, .ref a0]) rfl rfl rfl (fun x23 h22 => ?_)
  refine xle_isO (i := .invokevirtual 101) (bq := a0) (ci := 0) (fo := (f_K_derive z [.ref a0, .ref a20, .int xv3, .int x21, .ref a16, .int x23] h22).bind (xback 81 [(0, .ref a0), (1, .int xv1), (2, .int xv2), (3, .int xv3), (4, va_rf rv4), (5, .ref a20), (6, .ref a16)] [])) rfl rfl rfl (fun hs => ?_)
  refine xle_clI (t := []) rfl rfl hs (fun x25 h24 => ?_)
  exact xle_end (i := .ireturn) rfl rfl rfl
noncomputable def D_K_needKind_0 (z : xzs) (p0 : Int32) (h : xH) : Option xR :=
  if ¬ p0 = 0 then
    some (.inl none, h)
  else
    xlet (xn h) (xpush h 6 (.inr (8, [.null, .null, .int 0, .null, .null, .null]))) fun a1 h2 =>
    xclC (f_X_arg z [.ref a1] h2) fun h3 =>
    some (.inr a1, h3)
theorem E_K_needKind (z : xzs) (p0 : Int32) (h : xH) : xle (D_K_needKind_0 z p0 h) (xfun (K_K_needKind z) 1 [.int p0] h) := by
  unfold D_K_needKind_0
  refine xle_entry (Nat.le_of_ble_eq_true rfl) (xal_c (xca_i _) (rfl)) ?_
  show xle _ (xev (K_K_needKind z) (0, [(0, .int p0)], [], h))
  refine xle_next (i := .iload_n 0) (x' := (1, [(0, .int p0)], [.int p0], h)) rfl rfl rfl ?_
  refine xle_if (cd := .ne) (q := 12) rfl rfl rfl xc_ne (fun _ => ?_) (fun _ => ?_)
  · exact xle_end (i := .return_) rfl rfl rfl
  · refine xle_new (i := .new 273) (pc' := 7) (h' := xpush h 6 (.inr (8, [.null, .null, .int 0, .null, .null, .null]))) rfl rfl rfl (fun a1 h2 => ?_)
    refine xle_next (i := .dup) (x' := (8, [(0, .int p0)], [.ref a1, .ref a1], h2)) rfl rfl rfl ?_
    refine xle_clC (i := .invokespecial 275) (fo := f_X_arg z [.ref a1] h2) (t := [.ref a1]) rfl rfl rfl (fun h3 => ?_)
    exact xle_end (i := .athrow) rfl rfl rfl
noncomputable def B_K_mint_46 (z : xzs) (a0 : Nat) (xv1 : Int32) (xv2 : Int32) (xv3 : Int32) (xv4 : Int32) (rv5 : Option Nat) (h : xH) : Option xR := xev (K_K_mint z) (46, [(0, .ref a0), (1, .int xv1), (2, .int xv2), (3, .int xv3), (4, .int xv4), (5, va_rf rv5)], [], h)
noncomputable def B_K_mint_47 (z : xzs) (a0 : Nat) (xv1 : Int32) (xv2 : Int32) (xv3 : Int32) (xv4 : Int32) (rv5 : Option Nat) (xs0 : Int32) (h : xH) : Option xR := xev (K_K_mint z) (47, [(0, .ref a0), (1, .int xv1), (2, .int xv2), (3, .int xv3), (4, .int xv4), (5, va_rf rv5)], [.int xs0], h)
noncomputable def B_K_mint_88 (z : xzs) (a0 : Nat) (xv2 : Int32) (xv3 : Int32) (xv4 : Int32) (rv6 : Option Nat) (rv7 : Option Nat) (h : xH) : Option xR := xev (K_K_mint z) (88, [(0, .ref a0), (2, .int xv2), (3, .int xv3), (4, .int xv4), (6, va_rf rv6), (7, va_rf rv7)], [], h)
noncomputable def B_K_mint_93 (z : xzs) (a0 : Nat) (xv2 : Int32) (xv3 : Int32) (xv4 : Int32) (rv6 : Option Nat) (rv7 : Option Nat) (xs0 : Int32) (h : xH) : Option xR := xev (K_K_mint z) (93, [(0, .ref a0), (2, .int xv2), (3, .int xv3), (4, .int xv4), (6, va_rf rv6), (7, va_rf rv7)], [.int xs0], h)
noncomputable def B_K_mint_109 (z : xzs) (a0 : Nat) (xv2 : Int32) (xv3 : Int32) (xv4 : Int32) (rv6 : Option Nat) (rv7 : Option Nat) (xs0 : Int32) (h : xH) : Option xR := xev (K_K_mint z) (109, [(0, .ref a0), (2, .int xv2), (3, .int xv3), (4, .int xv4), (6, va_rf rv6), (7, va_rf rv7)], [.int xs0], h)
noncomputable def D_K_mint_0 (z : xzs) (a0 : Nat) (p1 : Int32) (p2 : Int32) (p3 : Int32) (p4 : Int32) (h : xH) : Option xR :=
  (xisO h a0 0).bind fun _ => xclR (f_K_actor z [.ref a0] h) fun r2 h1 =>
  xclI (f_K_isAddress z [.int p1] h1) fun x4 h3 =>
  if x4 = 0 then
    B_K_mint_46 z a0 p1 p2 p3 p4 r2 h3
  else
    xclI (f_K_isAddress z [.int p2] h3) fun x6 h5 =>
    if x6 = 0 then
      B_K_mint_46 z a0 p1 p2 p3 p4 r2 h5
    else
      xclI (f_K_isWithin z [.int p3, .int (Int32.ofInt 0), .int ((Int8.ofInt 7).toInt32)] h5) fun x8 h7 =>
      if x8 = 0 then
        B_K_mint_46 z a0 p1 p2 p3 p4 r2 h7
      else
        xclI (f_K_isWithin z [.int p4, .int (Int32.ofInt 1), .int ((Int16.ofInt 255).toInt32)] h7) fun x10 h9 =>
        if x10 = 0 then
          B_K_mint_46 z a0 p1 p2 p3 p4 r2 h9
        else
          B_K_mint_47 z a0 p1 p2 p3 p4 r2 (Int32.ofInt 1) h9
theorem E_K_mint (z : xzs) (a0 : Nat) (p1 : Int32) (p2 : Int32) (p3 : Int32) (p4 : Int32) (h : xH) : xle (D_K_mint_0 z a0 p1 p2 p3 p4 h) (xfun (K_K_mint z) 9 [.ref a0, .int p1, .int p2, .int p3, .int p4] h) := by
  unfold D_K_mint_0
  refine xle_entry (Nat.le_of_ble_eq_true rfl) (xal_c (xca_a _) (xal_c (xca_i _) (xal_c (xca_i _) (xal_c (xca_i _) (xal_c (xca_i _) (rfl)))))) ?_
  show xle _ (xev (K_K_mint z) (0, [(0, .ref a0), (1, .int p1), (2, .int p2), (3, .int p3), (4, .int p4)], [], h))
  refine xle_next (i := .aload_n 0) (x' := (1, [(0, .ref a0), (1, .int p1), (2, .int p2), (3, .int p3), (4, .int p4)], [.ref a0], h)) rfl rfl rfl ?_
  refine xle_isO (i := .invokevirtual 64) (bq := a0) (ci := 0) (fo := (f_K_actor z [.ref a0] h).bind (xback 1 [(0, .ref a0), (1, .int p1), (2, .int p2), (3, .int p3), (4, .int p4)] [])) rfl rfl rfl (fun hs => ?_)
  refine xle_clR (t := []) rfl rfl hs (fun r2 h1 => ?_)
  refine xle_ast (k := 5) (r := r2) (L' := [(0, .ref a0), (1, .int p1), (2, .int p2), (3, .int p3), (4, .int p4), (5, va_rf r2)]) rfl rfl rfl ?_
  refine xle_next (i := .iload_n 1) (x' := (7, [(0, .ref a0), (1, .int p1), (2, .int p2), (3, .int p3), (4, .int p4), (5, va_rf r2)], [.int p1], h1)) rfl rfl rfl ?_
  refine xle_clI (i := .invokestatic 68) (fo := f_K_isAddress z [.int p1] h1) (t := []) rfl rfl rfl (fun x4 h3 => ?_)
  refine xle_if (cd := .eq) (q := 46) rfl rfl rfl xc_eq (fun _ => ?_) (fun _ => ?_)
  · exact xle_jump rfl
  · refine xle_next (i := .iload_n 2) (x' := (14, [(0, .ref a0), (1, .int p1), (2, .int p2), (3, .int p3), (4, .int p4), (5, va_rf r2)], [.int p2], h3)) rfl rfl rfl ?_
    refine xle_clI (i := .invokestatic 68) (fo := f_K_isAddress z [.int p2] h3) (t := []) rfl rfl rfl (fun x6 h5 => ?_)
    refine xle_if (cd := .eq) (q := 46) rfl rfl rfl xc_eq (fun _ => ?_) (fun _ => ?_)
    · exact xle_jump rfl
    · refine xle_next (i := .iload_n 3) (x' := (21, [(0, .ref a0), (1, .int p1), (2, .int p2), (3, .int p3), (4, .int p4), (5, va_rf r2)], [.int p3], h5)) rfl rfl rfl ?_
      refine xle_next (i := .iconst 0) (x' := (22, [(0, .ref a0), (1, .int p1), (2, .int p2), (3, .int p3), (4, .int p4), (5, va_rf r2)], [.int (Int32.ofInt 0), .int p3], h5)) rfl rfl rfl ?_
      refine xle_next (i := .bipush 7) (x' := (24, [(0, .ref a0), (1, .int p1), (2, .int p2), (3, .int p3), (4, .int p4), (5, va_rf r2)], [.int ((Int8.ofInt 7).toInt32), .int (Int32.ofInt 0), .int p3], h5)) rfl rfl rfl ?_
      refine xle_clI (i := .invokestatic 72) (fo := f_K_isWithin z [.int p3, .int (Int32.ofInt 0), .int ((Int8.ofInt 7).toInt32)] h5) (t := []) rfl rfl rfl (fun x8 h7 => ?_)
      refine xle_if (cd := .eq) (q := 46) rfl rfl rfl xc_eq (fun _ => ?_) (fun _ => ?_)
      · exact xle_jump rfl
      · refine xle_next (i := .iload 4) (x' := (32, [(0, .ref a0), (1, .int p1), (2, .int p2), (3, .int p3), (4, .int p4), (5, va_rf r2)], [.int p4], h7)) rfl rfl rfl ?_
        refine xle_next (i := .iconst 1) (x' := (33, [(0, .ref a0), (1, .int p1), (2, .int p2), (3, .int p3), (4, .int p4), (5, va_rf r2)], [.int (Int32.ofInt 1), .int p4], h7)) rfl rfl rfl ?_
        refine xle_next (i := .sipush 255) (x' := (36, [(0, .ref a0), (1, .int p1), (2, .int p2), (3, .int p3), (4, .int p4), (5, va_rf r2)], [.int ((Int16.ofInt 255).toInt32), .int (Int32.ofInt 1), .int p4], h7)) rfl rfl rfl ?_
        refine xle_clI (i := .invokestatic 72) (fo := f_K_isWithin z [.int p4, .int (Int32.ofInt 1), .int ((Int16.ofInt 255).toInt32)] h7) (t := []) rfl rfl rfl (fun x10 h9 => ?_)
        refine xle_if (cd := .eq) (q := 46) rfl rfl rfl xc_eq (fun _ => ?_) (fun _ => ?_)
        · exact xle_jump rfl
        · refine xle_next (i := .iconst 1) (x' := (43, [(0, .ref a0), (1, .int p1), (2, .int p2), (3, .int p3), (4, .int p4), (5, va_rf r2)], [.int (Int32.ofInt 1)], h9)) rfl rfl rfl ?_
          refine xle_next (i := .goto 4) (x' := (47, [(0, .ref a0), (1, .int p1), (2, .int p2), (3, .int p3), (4, .int p4), (5, va_rf r2)], [.int (Int32.ofInt 1)], h9)) rfl rfl rfl ?_
          exact xle_jump rfl
noncomputable def D_K_mint_46 (z : xzs) (a0 : Nat) (xv1 : Int32) (xv2 : Int32) (xv3 : Int32) (xv4 : Int32) (rv5 : Option Nat) (h : xH) : Option xR :=
  B_K_mint_47 z a0 xv1 xv2 xv3 xv4 rv5 (Int32.ofInt 0) h
theorem E_K_mint_46 (z : xzs) (a0 : Nat) (xv1 : Int32) (xv2 : Int32) (xv3 : Int32) (xv4 : Int32) (rv5 : Option Nat) (h : xH) : xle (D_K_mint_46 z a0 xv1 xv2 xv3 xv4 rv5 h) (B_K_mint_46 z a0 xv1 xv2 xv3 xv4 rv5 h) := by
  unfold D_K_mint_46 B_K_mint_46
  refine xle_next (i := .iconst 0) (x' := (47, [(0, .ref a0), (1, .int xv1), (2, .int xv2), (3, .int xv3), (4, .int xv4), (5, va_rf rv5)], [.int (Int32.ofInt 0)], h)) rfl rfl rfl ?_
  exact xle_jump rfl
noncomputable def D_K_mint_47 (z : xzs) (a0 : Nat) (xv1 : Int32) (xv2 : Int32) (xv3 : Int32) (xv4 : Int32) (rv5 : Option Nat) (xs0 : Int32) (h : xH) : Option xR :=
  xclV (f_K_needNumbers z [.int xs0] h) fun h11 =>
  xclR (f_K_capabilityAt z [va_rf rv5, .int xv1] h11) fun r13 h12 =>
  xclR (f_K_tableAt z [va_rf rv5, .int xv2] h12) fun r15 h14 =>
  r13.bind fun a16 =>
  (rdR h14 a16 1 0).bind fun r17 =>
  r17.bind fun a18 =>
  (rdI h14 a18 5 0).bind fun x19 =>
  if x19 = (Int32.ofInt 1) then
    B_K_mint_88 z a0 xv2 xv3 xv4 (some a16) r15 h14
  else
    if ¬ x19 = (Int32.ofInt 2) then
      B_K_mint_93 z a0 xv2 xv3 xv4 (some a16) r15 (Int32.ofInt 0) h14
    else
      B_K_mint_88 z a0 xv2 xv3 xv4 (some a16) r15 h14
theorem E_K_mint_47 (z : xzs) (a0 : Nat) (xv1 : Int32) (xv2 : Int32) (xv3 : Int32) (xv4 : Int32) (rv5 : Option Nat) (xs0 : Int32) (h : xH) : xle (D_K_mint_47 z a0 xv1 xv2 xv3 xv4 rv5 xs0 h) (B_K_mint_47 z a0 xv1 xv2 xv3 xv4 rv5 xs0 h) := by
  unfold D_K_mint_47 B_K_mint_47
  refine xle_clV (i := .invokestatic 76) (fo := f_K_needNumbers z [.int xs0] h) (t := []) rfl rfl rfl (fun h11 => ?_)
  refine xle_ald (k := 5) (r := rv5) rfl rfl rfl ?_
  refine xle_next (i := .iload_n 1) (x' := (53, [(0, .ref a0), (1, .int xv1), (2, .int xv2), (3, .int xv3), (4, .int xv4), (5, va_rf rv5)], [.int xv1, va_rf rv5], h11)) rfl rfl rfl ?_
  refine xle_clR (i := .invokestatic 80) (fo := f_K_capabilityAt z [va_rf rv5, .int xv1] h11) (t := []) rfl rfl rfl (fun r13 h12 => ?_)
  refine xle_ast (k := 6) (r := r13) (L' := [(0, .ref a0), (1, .int xv1), (2, .int xv2), (3, .int xv3), (4, .int xv4), (5, va_rf rv5), (6, va_rf r13)]) rfl rfl rfl ?_
  refine xle_ald (k := 5) (r := rv5) rfl rfl rfl ?_
  refine xle_next (i := .iload_n 2) (x' := (61, [(0, .ref a0), (1, .int xv1), (2, .int xv2), (3, .int xv3), (4, .int xv4), (5, va_rf rv5), (6, va_rf r13)], [.int xv2, va_rf rv5], h12)) rfl rfl rfl ?_
  refine xle_clR (i := .invokestatic 84) (fo := f_K_tableAt z [va_rf rv5, .int xv2] h12) (t := []) rfl rfl rfl (fun r15 h14 => ?_)
  refine xle_ast (k := 7) (r := r15) (L' := [(0, .ref a0), (1, .int xv1), (2, .int xv2), (3, .int xv3), (4, .int xv4), (5, va_rf rv5), (6, va_rf r13), (7, va_rf r15)]) rfl rfl rfl ?_
  refine xle_ald (k := 6) (r := r13) rfl rfl rfl ?_
  refine xle_some (fun r_ => (68, [(0, .ref a0), (1, .int xv1), (2, .int xv2), (3, .int xv3), (4, .int xv4), (5, va_rf rv5), (6, va_rf r_), (7, va_rf r15)], [va_rf r_], h14)) (fun a16 => ?_)
  refine xle_getR (f := (1, 0, .object "CapKernel$Thing", 0)) rfl rfl rfl (fun r17 => ?_)
  refine xle_some (fun r_ => (71, [(0, .ref a0), (1, .int xv1), (2, .int xv2), (3, .int xv3), (4, .int xv4), (5, va_rf rv5), (6, .ref a16), (7, va_rf r15)], [va_rf r_], h14)) (fun a18 => ?_)
  refine xle_getI (f := (5, 0, .int, 0)) rfl rfl rfl (fun x19 => ?_)
  refine xle_next (i := .istore 8) (x' := (76, [(0, .ref a0), (1, .int xv1), (2, .int xv2), (3, .int xv3), (4, .int xv4), (5, va_rf rv5), (6, .ref a16), (7, va_rf r15), (8, .int x19)], [], h14)) rfl rfl rfl ?_
  refine xle_next (i := .iload 8) (x' := (78, [(0, .ref a0), (1, .int xv1), (2, .int xv2), (3, .int xv3), (4, .int xv4), (5, va_rf rv5), (6, .ref a16), (7, va_rf r15), (8, .int x19)], [.int x19], h14)) rfl rfl rfl ?_
  refine xle_next (i := .iconst 1) (x' := (79, [(0, .ref a0), (1, .int xv1), (2, .int xv2), (3, .int xv3), (4, .int xv4), (5, va_rf rv5), (6, .ref a16), (7, va_rf r15), (8, .int x19)], [.int (Int32.ofInt 1), .int x19], h14)) rfl rfl rfl ?_
  refine xle_icmp (cd := .eq) (q := 88) rfl rfl rfl xc_eq (fun _ => ?_) (fun _ => ?_)
  · exact xle_jump rfl
  · refine xle_next (i := .iload 8) (x' := (84, [(0, .ref a0), (1, .int xv1), (2, .int xv2), (3, .int xv3), (4, .int xv4), (5, va_rf rv5), (6, .ref a16), (7, va_rf r15), (8, .int x19)], [.int x19], h14)) rfl rfl rfl ?_
    refine xle_next (i := .iconst 2) (x' := (85, [(0, .ref a0), (1, .int xv1), (2, .int xv2), (3, .int xv3), (4, .int xv4), (5, va_rf rv5), (6, .ref a16), (7, va_rf r15), (8, .int x19)], [.int (Int32.ofInt 2), .int x19], h14)) rfl rfl rfl ?_
    refine xle_icmp (cd := .ne) (q := 92) rfl rfl rfl xc_ne (fun _ => ?_) (fun _ => ?_)
    · refine xle_next (i := .iconst 0) (x' := (93, [(0, .ref a0), (1, .int xv1), (2, .int xv2), (3, .int xv3), (4, .int xv4), (5, va_rf rv5), (6, .ref a16), (7, va_rf r15), (8, .int x19)], [.int (Int32.ofInt 0)], h14)) rfl rfl rfl ?_
      exact xle_jump rfl
    · exact xle_jump rfl
noncomputable def D_K_mint_88 (z : xzs) (a0 : Nat) (xv2 : Int32) (xv3 : Int32) (xv4 : Int32) (rv6 : Option Nat) (rv7 : Option Nat) (h : xH) : Option xR :=
  B_K_mint_93 z a0 xv2 xv3 xv4 rv6 rv7 (Int32.ofInt 1) h
theorem E_K_mint_88 (z : xzs) (a0 : Nat) (xv2 : Int32) (xv3 : Int32) (xv4 : Int32) (rv6 : Option Nat) (rv7 : Option Nat) (h : xH) : xle (D_K_mint_88 z a0 xv2 xv3 xv4 rv6 rv7 h) (B_K_mint_88 z a0 xv2 xv3 xv4 rv6 rv7 h) := by
  unfold D_K_mint_88 B_K_mint_88
  refine xle_next (i := .iconst 1) (x' := (89, [(0, .ref a0), (2, .int xv2), (3, .int xv3), (4, .int xv4), (6, va_rf rv6), (7, va_rf rv7)], [.int (Int32.ofInt 1)], h)) rfl rfl rfl ?_
  refine xle_next (i := .goto 4) (x' := (93, [(0, .ref a0), (2, .int xv2), (3, .int xv3), (4, .int xv4), (6, va_rf rv6), (7, va_rf rv7)], [.int (Int32.ofInt 1)], h)) rfl rfl rfl ?_
  exact xle_jump rfl
noncomputable def D_K_mint_93 (z : xzs) (a0 : Nat) (xv2 : Int32) (xv3 : Int32) (xv4 : Int32) (rv6 : Option Nat) (rv7 : Option Nat) (xs0 : Int32) (h : xH) : Option xR :=
  xclV (f_K_needKind z [.int xs0] h) fun h20 =>
  rv6.bind fun a21 =>
  (rdI h20 a21 1 2).bind fun x22 =>
  if ¬ x22 = 0 then
    B_K_mint_109 z a0 xv2 xv3 xv4 (some a21) rv7 (Int32.ofInt 0) h20
  else
    B_K_mint_109 z a0 xv2 xv3 xv4 (some a21) rv7 (Int32.ofInt 1) h20
theorem E_K_mint_93 (z : xzs) (a0 : Nat) (xv2 : Int32) (xv3 : Int32) (xv4 : Int32) (rv6 : Option Nat) (rv7 : Option Nat) (xs0 : Int32) (h : xH) : xle (D_K_mint_93 z a0 xv2 xv3 xv4 rv6 rv7 xs0 h) (B_K_mint_93 z a0 xv2 xv3 xv4 rv6 rv7 xs0 h) := by
  unfold D_K_mint_93 B_K_mint_93
  refine xle_clV (i := .invokestatic 111) (fo := f_K_needKind z [.int xs0] h) (t := []) rfl rfl rfl (fun h20 => ?_)
  refine xle_ald (k := 6) (r := rv6) rfl rfl rfl ?_
  refine xle_some (fun r_ => (98, [(0, .ref a0), (2, .int xv2), (3, .int xv3), (4, .int xv4), (6, va_rf r_), (7, va_rf rv7)], [va_rf r_], h20)) (fun a21 => ?_)
  refine xle_getI (f := (1, 2, .int, 0)) rfl rfl rfl (fun x22 => ?_)
  refine xle_if (cd := .ne) (q := 108) rfl rfl rfl xc_ne (fun _ => ?_) (fun _ => ?_)
  · refine xle_next (i := .iconst 0) (x' := (109, [(0, .ref a0), (2, .int xv2), (3, .int xv3), (4, .int xv4), (6, .ref a21), (7, va_rf rv7)], [.int (Int32.ofInt 0)], h20)) rfl rfl rfl ?_
    exact xle_jump rfl
  · refine xle_next (i := .iconst 1) (x' := (105, [(0, .ref a0), (2, .int xv2), (3, .int xv3), (4, .int xv4), (6, .ref a21), (7, va_rf rv7)], [.int (Int32.ofInt 1)], h20)) rfl rfl rfl ?_
    refine xle_next (i := .goto 4) (x' := (109, [(0, .ref a0), (2, .int xv2), (3, .int xv3), (4, .int xv4), (6, .ref a21), (7, va_rf rv7)], [.int (Int32.ofInt 1)], h20)) rfl rfl rfl ?_
    exact xle_jump rfl
noncomputable def D_K_mint_109 (z : xzs) (a0 : Nat) (xv2 : Int32) (xv3 : Int32) (xv4 : Int32) (rv6 : Option Nat) (rv7 : Option Nat) (xs0 : Int32) (h : xH) : Option xR :=
  xclV (f_K_needState z [.int xs0] h) fun h23 =>
  xclI (f_K_slotOf z [.int xv2] h23) fun x25 h24 =>
  rv7.bind fun a26 =>
  (xisO h24 a26 5).bind fun _ => xclI (f_T_isFree z [.ref a26, .int x25] h24) fun x28 h27 =>
  xclV (f_K_needState z [.int x28] h27) fun h29 =>
  rv6.bind fun a30 =>
  xclI (f_K_slotOf z [.int xv2] h29) fun x32 h31 =>
  (xisO h31 a0 0).bind fun _ => xclI (f_K_derive z [.ref a0, .ref a30, .int xv3, .int xv4, .ref a26, .int x32] h31) fun x34 h33 =>
  some (.inl (some (.int x34)), h33)
theorem E_K_mint_109 (z : xzs) (a0 : Nat) (xv2 : Int32) (xv3 : Int32) (xv4 : Int32) (rv6 : Option Nat) (rv7 : Option Nat) (xs0 : Int32) (h : xH) : xle (D_K_mint_109 z a0 xv2 xv3 xv4 rv6 rv7 xs0 h) (B_K_mint_109 z a0 xv2 xv3 xv4 rv6 rv7 xs0 h) := by
  unfold D_K_mint_109 B_K_mint_109
  refine xle_clV (i := .invokestatic 95) (fo := f_K_needState z [.int xs0] h) (t := []) rfl rfl rfl (fun h23 => ?_)
  refine xle_ald (k := 7) (r := rv7) rfl rfl rfl ?_
  refine xle_next (i := .iload_n 2) (x' := (115, [(0, .ref a0), (2, .int xv2), (3, .int xv3), (4, .int xv4), (6, va_rf rv6), (7, va_rf rv7)], [.int xv2, va_rf rv7], h23)) rfl rfl rfl ?_
  refine xle_clI (i := .invokestatic 88) (fo := f_K_slotOf z [.int xv2] h23) (t := [va_rf rv7]) rfl rfl rfl (fun x25 h24 => ?_)
  refine xle_some (fun r_ => (118, [(0, .ref a0), (2, .int xv2), (3, .int xv3), (4, .int xv4), (6, va_rf rv6), (7, va_rf r_)], [.int x25, va_rf r_], h24)) (fun a26 => ?_)
  refine xle_isO (i := .invokevirtual 92) (bq := a26) (ci := 5) (fo := (f_T_isFree z [.ref a26, .int x25] h24).bind (xback 118 [(0, .ref a0), (2, .int xv2), (3, .int xv3), (4, .int xv4), (6, va_rf rv6), (7, .ref a26)] [])) rfl rfl rfl (fun hs => ?_)
  refine xle_clI (t := []) rfl rfl hs (fun x28 h27 => ?_)
  refine xle_clV (i := .invokestatic 95) (fo := f_K_needState z [.int x28] h27) (t := []) rfl rfl rfl (fun h29 => ?_)
  refine xle_next (i := .aload_n 0) (x' := (125, [(0, .ref a0), (2, .int xv2), (3, .int xv3), (4, .int xv4), (6, va_rf rv6), (7, .ref a26)], [.ref a0], h29)) rfl rfl rfl ?_
  refine xle_ald (k := 6) (r := rv6) rfl rfl rfl ?_
  refine xle_next (i := .iload_n 3) (x' := (128, [(0, .ref a0), (2, .int xv2), (3, .int xv3), (4, .int xv4), (6, va_rf rv6), (7, .ref a26)], [.int xv3, va_rf rv6, .ref a0], h29)) rfl rfl rfl ?_
  refine xle_next (i := .iload 4) (x' := (130, [(0, .ref a0), (2, .int xv2), (3, .int xv3), (4, .int xv4), (6, va_rf rv6), (7, .ref a26)], [.int xv4, .int xv3, va_rf rv6, .ref a0], h29)) rfl rfl rfl ?_
  refine xle_next (i := .aload 7) (x' := (132, [(0, .ref a0), (2, .int xv2), (3, .int xv3), (4, .int xv4), (6, va_rf rv6), (7, .ref a26)], [.ref a26, .int xv4, .int xv3, va_rf rv6, .ref a0], h29)) rfl rfl rfl ?_
  refine xle_next (i := .iload_n 2) (x' := (133, [(0, .ref a0), (2, .int xv2), (3, .int xv3), (4, .int xv4), (6, va_rf rv6), (7, .ref a26)], [.int xv2, .ref a26, .int xv4, .int xv3, va_rf rv6, .ref a0], h29)) rfl rfl rfl ?_
  refine xle_some (fun r_ => (133, [(0, .ref a0), (2, .int xv2), (3, .int xv3), (4, .int xv4), (6, va_rf r_), (7, .ref a26)], [.int xv2, .ref a26, .int xv4, .int xv3, va_rf r_, .ref a0], h29)) (fun a30 => ?_)
  refine xle_clI (i := .invokestatic 88) (fo := f_K_slotOf z [.int xv2] h29) (t := [.ref a26, .int xv4, .int xv3, .ref a30, .ref a0]) rfl rfl rfl (fun x32 h31 => ?_)
  refine xle_isO (i := .invokevirtual 101) (bq := a0) (ci := 0) (fo := (f_K_derive z [.ref a0, .ref a30, .int xv3, .int xv4, .ref a26, .int x32] h31).bind (xback 136 [(0, .ref a0), (2, .int xv2), (3, .int xv3), (4, .int xv4), (6, .ref a30), (7, .ref a26)] [])) rfl rfl rfl (fun hs => ?_)
  refine xle_clI (t := []) rfl rfl hs (fun x34 h33 => ?_)
  exact xle_end (i := .ireturn) rfl rfl rfl
noncomputable def B_K_move_23 (z : xzs) (xv1 : Int32) (xv2 : Int32) (rv3 : Option Nat) (h : xH) : Option xR := xev (K_K_move z) (23, [(1, .int xv1), (2, .int xv2), (3, va_rf rv3)], [], h)
noncomputable def B_K_move_24 (z : xzs) (xv1 : Int32) (xv2 : Int32) (rv3 : Option Nat) (xs0 : Int32) (h : xH) : Option xR := xev (K_K_move z) (24, [(1, .int xv1), (2, .int xv2), (3, va_rf rv3)], [.int xs0], h)
noncomputable def B_K_move_68 (z : xzs) (xv2 : Int32) (rv4 : Option Nat) (rv5 : Option Nat) (xs0 : Int32) (h : xH) : Option xR := xev (K_K_move z) (68, [(2, .int xv2), (4, va_rf rv4), (5, va_rf rv5)], [.int xs0], h)
noncomputable def D_K_move_0 (z : xzs) (a0 : Nat) (p1 : Int32) (p2 : Int32) (h : xH) : Option xR :=
  (xisO h a0 0).bind fun _ => xclR (f_K_actor z [.ref a0] h) fun r2 h1 =>
  xclI (f_K_isAddress z [.int p1] h1) fun x4 h3 =>
  if x4 = 0 then
    B_K_move_23 z p1 p2 r2 h3
  else
    xclI (f_K_isAddress z [.int p2] h3) fun x6 h5 =>
    if x6 = 0 then
      B_K_move_23 z p1 p2 r2 h5
    else
      B_K_move_24 z p1 p2 r2 (Int32.ofInt 1) h5
theorem E_K_move (z : xzs) (a0 : Nat) (p1 : Int32) (p2 : Int32) (h : xH) : xle (D_K_move_0 z a0 p1 p2 h) (xfun (K_K_move z) 6 [.ref a0, .int p1, .int p2] h) := by
  unfold D_K_move_0
  refine xle_entry (Nat.le_of_ble_eq_true rfl) (xal_c (xca_a _) (xal_c (xca_i _) (xal_c (xca_i _) (rfl)))) ?_
  show xle _ (xev (K_K_move z) (0, [(0, .ref a0), (1, .int p1), (2, .int p2)], [], h))
  refine xle_next (i := .aload_n 0) (x' := (1, [(0, .ref a0), (1, .int p1), (2, .int p2)], [.ref a0], h)) rfl rfl rfl ?_
  refine xle_isO (i := .invokevirtual 64) (bq := a0) (ci := 0) (fo := (f_K_actor z [.ref a0] h).bind (xback 1 [(0, .ref a0), (1, .int p1), (2, .int p2)] [])) rfl rfl rfl (fun hs => ?_)
  refine xle_clR (t := []) rfl rfl hs (fun r2 h1 => ?_)
  refine xle_astn (k := 3) (r := r2) (L' := [(0, .ref a0), (1, .int p1), (2, .int p2), (3, va_rf r2)]) rfl rfl rfl ?_
  refine xle_next (i := .iload_n 1) (x' := (6, [(0, .ref a0), (1, .int p1), (2, .int p2), (3, va_rf r2)], [.int p1], h1)) rfl rfl rfl ?_
  refine xle_clI (i := .invokestatic 68) (fo := f_K_isAddress z [.int p1] h1) (t := []) rfl rfl rfl (fun x4 h3 => ?_)
  refine xle_if (cd := .eq) (q := 23) rfl rfl rfl xc_eq (fun _ => ?_) (fun _ => ?_)
  · exact xle_jump rfl
  · refine xle_next (i := .iload_n 2) (x' := (13, [(0, .ref a0), (1, .int p1), (2, .int p2), (3, va_rf r2)], [.int p2], h3)) rfl rfl rfl ?_
    refine xle_clI (i := .invokestatic 68) (fo := f_K_isAddress z [.int p2] h3) (t := []) rfl rfl rfl (fun x6 h5 => ?_)
    refine xle_if (cd := .eq) (q := 23) rfl rfl rfl xc_eq (fun _ => ?_) (fun _ => ?_)
    · exact xle_jump rfl
    · refine xle_next (i := .iconst 1) (x' := (20, [(0, .ref a0), (1, .int p1), (2, .int p2), (3, va_rf r2)], [.int (Int32.ofInt 1)], h5)) rfl rfl rfl ?_
      refine xle_next (i := .goto 4) (x' := (24, [(0, .ref a0), (1, .int p1), (2, .int p2), (3, va_rf r2)], [.int (Int32.ofInt 1)], h5)) rfl rfl rfl ?_
      exact xle_jump rfl
noncomputable def D_K_move_23 (z : xzs) (xv1 : Int32) (xv2 : Int32) (rv3 : Option Nat) (h : xH) : Option xR :=
  B_K_move_24 z xv1 xv2 rv3 (Int32.ofInt 0) h
theorem E_K_move_23 (z : xzs) (xv1 : Int32) (xv2 : Int32) (rv3 : Option Nat) (h : xH) : xle (D_K_move_23 z xv1 xv2 rv3 h) (B_K_move_23 z xv1 xv2 rv3 h) := by
  unfold D_K_move_23 B_K_move_23
  refine xle_next (i := .iconst 0) (x' := (24, [(1, .int xv1), (2, .int xv2), (3, va_rf rv3)], [.int (Int32.ofInt 0)], h)) rfl rfl rfl ?_
  exact xle_jump rfl
noncomputable def D_K_move_24 (z : xzs) (xv1 : Int32) (xv2 : Int32) (rv3 : Option Nat) (xs0 : Int32) (h : xH) : Option xR :=
  xclV (f_K_needNumbers z [.int xs0] h) fun h7 =>
  xclR (f_K_capabilityAt z [va_rf rv3, .int xv1] h7) fun r9 h8 =>
  xclR (f_K_tableAt z [va_rf rv3, .int xv2] h8) fun r11 h10 =>
  xclI (f_K_slotOf z [.int xv2] h10) fun x13 h12 =>
  r11.bind fun a14 =>
  (xisO h12 a14 5).bind fun _ => xclI (f_T_isFree z [.ref a14, .int x13] h12) fun x16 h15 =>
  xclV (f_K_needState z [.int x16] h15) fun h17 =>
  r9.bind fun a18 =>
  (rdR h17 a18 1 0).bind fun r19 =>
  if r19 = (some a14) then
    B_K_move_68 z xv2 (some a18) (some a14) (Int32.ofInt 0) h17
  else
    B_K_move_68 z xv2 (some a18) (some a14) (Int32.ofInt 1) h17
theorem E_K_move_24 (z : xzs) (xv1 : Int32) (xv2 : Int32) (rv3 : Option Nat) (xs0 : Int32) (h : xH) : xle (D_K_move_24 z xv1 xv2 rv3 xs0 h) (B_K_move_24 z xv1 xv2 rv3 xs0 h) := by
  unfold D_K_move_24 B_K_move_24
  refine xle_clV (i := .invokestatic 76) (fo := f_K_needNumbers z [.int xs0] h) (t := []) rfl rfl rfl (fun h7 => ?_)
  refine xle_aldn (k := 3) (r := rv3) rfl rfl rfl ?_
  refine xle_next (i := .iload_n 1) (x' := (29, [(1, .int xv1), (2, .int xv2), (3, va_rf rv3)], [.int xv1, va_rf rv3], h7)) rfl rfl rfl ?_
  refine xle_clR (i := .invokestatic 80) (fo := f_K_capabilityAt z [va_rf rv3, .int xv1] h7) (t := []) rfl rfl rfl (fun r9 h8 => ?_)
  refine xle_ast (k := 4) (r := r9) (L' := [(1, .int xv1), (2, .int xv2), (3, va_rf rv3), (4, va_rf r9)]) rfl rfl rfl ?_
  refine xle_aldn (k := 3) (r := rv3) rfl rfl rfl ?_
  refine xle_next (i := .iload_n 2) (x' := (36, [(1, .int xv1), (2, .int xv2), (3, va_rf rv3), (4, va_rf r9)], [.int xv2, va_rf rv3], h8)) rfl rfl rfl ?_
  refine xle_clR (i := .invokestatic 84) (fo := f_K_tableAt z [va_rf rv3, .int xv2] h8) (t := []) rfl rfl rfl (fun r11 h10 => ?_)
  refine xle_ast (k := 5) (r := r11) (L' := [(1, .int xv1), (2, .int xv2), (3, va_rf rv3), (4, va_rf r9), (5, va_rf r11)]) rfl rfl rfl ?_
  refine xle_ald (k := 5) (r := r11) rfl rfl rfl ?_
  refine xle_next (i := .iload_n 2) (x' := (44, [(1, .int xv1), (2, .int xv2), (3, va_rf rv3), (4, va_rf r9), (5, va_rf r11)], [.int xv2, va_rf r11], h10)) rfl rfl rfl ?_
  refine xle_clI (i := .invokestatic 88) (fo := f_K_slotOf z [.int xv2] h10) (t := [va_rf r11]) rfl rfl rfl (fun x13 h12 => ?_)
  refine xle_some (fun r_ => (47, [(1, .int xv1), (2, .int xv2), (3, va_rf rv3), (4, va_rf r9), (5, va_rf r_)], [.int x13, va_rf r_], h12)) (fun a14 => ?_)
  refine xle_isO (i := .invokevirtual 92) (bq := a14) (ci := 5) (fo := (f_T_isFree z [.ref a14, .int x13] h12).bind (xback 47 [(1, .int xv1), (2, .int xv2), (3, va_rf rv3), (4, va_rf r9), (5, .ref a14)] [])) rfl rfl rfl (fun hs => ?_)
  refine xle_clI (t := []) rfl rfl hs (fun x16 h15 => ?_)
  refine xle_clV (i := .invokestatic 95) (fo := f_K_needState z [.int x16] h15) (t := []) rfl rfl rfl (fun h17 => ?_)
  refine xle_ald (k := 4) (r := r9) rfl rfl rfl ?_
  refine xle_some (fun r_ => (55, [(1, .int xv1), (2, .int xv2), (3, va_rf rv3), (4, va_rf r_), (5, .ref a14)], [va_rf r_], h17)) (fun a18 => ?_)
  refine xle_getR (f := (1, 0, .object "CapKernel$Thing", 0)) rfl rfl rfl (fun r19 => ?_)
  refine xle_next (i := .aload 5) (x' := (60, [(1, .int xv1), (2, .int xv2), (3, va_rf rv3), (4, .ref a18), (5, .ref a14)], [.ref a14, va_rf r19], h17)) rfl rfl rfl ?_
  refine xle_aeq (x := r19) (y := (some a14)) (q := 67) rfl rfl rfl ?_ ?_
  · refine xle_next (i := .iconst 0) (x' := (68, [(1, .int xv1), (2, .int xv2), (3, va_rf rv3), (4, .ref a18), (5, .ref a14)], [.int (Int32.ofInt 0)], h17)) rfl rfl rfl ?_
    exact xle_jump rfl
  · refine xle_next (i := .iconst 1) (x' := (64, [(1, .int xv1), (2, .int xv2), (3, va_rf rv3), (4, .ref a18), (5, .ref a14)], [.int (Int32.ofInt 1)], h17)) rfl rfl rfl ?_
    refine xle_next (i := .goto 4) (x' := (68, [(1, .int xv1), (2, .int xv2), (3, va_rf rv3), (4, .ref a18), (5, .ref a14)], [.int (Int32.ofInt 1)], h17)) rfl rfl rfl ?_
    exact xle_jump rfl
noncomputable def D_K_move_68 (z : xzs) (xv2 : Int32) (rv4 : Option Nat) (rv5 : Option Nat) (xs0 : Int32) (h : xH) : Option xR :=
  xclV (f_K_needState z [.int xs0] h) fun h20 =>
  rv4.bind fun a21 =>
  (xisO h20 a21 1).bind fun _ => xclV (f_C_leaveSlot z [.ref a21] h20) fun h22 =>
  xclI (f_K_slotOf z [.int xv2] h22) fun x24 h23 =>
  (xisO h23 a21 1).bind fun _ => xclV (f_C_enterSlot z [.ref a21, va_rf rv5, .int x24] h23) fun h25 =>
  some (.inl (some (.int (Int32.ofInt 0))), h25)
theorem E_K_move_68 (z : xzs) (xv2 : Int32) (rv4 : Option Nat) (rv5 : Option Nat) (xs0 : Int32) (h : xH) : xle (D_K_move_68 z xv2 rv4 rv5 xs0 h) (B_K_move_68 z xv2 rv4 rv5 xs0 h) := by
  unfold D_K_move_68 B_K_move_68
  refine xle_clV (i := .invokestatic 95) (fo := f_K_needState z [.int xs0] h) (t := []) rfl rfl rfl (fun h20 => ?_)
  refine xle_ald (k := 4) (r := rv4) rfl rfl rfl ?_
  refine xle_some (fun r_ => (73, [(2, .int xv2), (4, va_rf r_), (5, va_rf rv5)], [va_rf r_], h20)) (fun a21 => ?_)
  refine xle_isO (i := .invokevirtual 114) (bq := a21) (ci := 1) (fo := (f_C_leaveSlot z [.ref a21] h20).bind (xback 73 [(2, .int xv2), (4, .ref a21), (5, va_rf rv5)] [])) rfl rfl rfl (fun hs => ?_)
  refine xle_clV (t := []) rfl rfl hs (fun h22 => ?_)
  refine xle_next (i := .aload 4) (x' := (78, [(2, .int xv2), (4, .ref a21), (5, va_rf rv5)], [.ref a21], h22)) rfl rfl rfl ?_
  refine xle_ald (k := 5) (r := rv5) rfl rfl rfl ?_
  refine xle_next (i := .iload_n 2) (x' := (81, [(2, .int xv2), (4, .ref a21), (5, va_rf rv5)], [.int xv2, va_rf rv5, .ref a21], h22)) rfl rfl rfl ?_
  refine xle_clI (i := .invokestatic 88) (fo := f_K_slotOf z [.int xv2] h22) (t := [va_rf rv5, .ref a21]) rfl rfl rfl (fun x24 h23 => ?_)
  refine xle_isO (i := .invokevirtual 117) (bq := a21) (ci := 1) (fo := (f_C_enterSlot z [.ref a21, va_rf rv5, .int x24] h23).bind (xback 84 [(2, .int xv2), (4, .ref a21), (5, va_rf rv5)] [])) rfl rfl rfl (fun hs => ?_)
  refine xle_clV (t := []) rfl rfl hs (fun h25 => ?_)
  refine xle_next (i := .iconst 0) (x' := (88, [(2, .int xv2), (4, .ref a21), (5, va_rf rv5)], [.int (Int32.ofInt 0)], h25)) rfl rfl rfl ?_
  exact xle_end (i := .ireturn) rfl rfl rfl
noncomputable def B_K_unlist_10 (z : xzs) (a0 : Nat) (rv1 : Option Nat) (xv2 : Int32) (h : xH) : Option xR := xev (K_K_unlist z) (10, [(0, .ref a0), (1, va_rf rv1), (2, .int xv2)], [], h)
noncomputable def B_K_unlist_59 (z : xzs) (a0 : Nat) (rv1 : Option Nat) (xv2 : Int32) (h : xH) : Option xR := xev (K_K_unlist z) (59, [(0, .ref a0), (1, va_rf rv1), (2, .int xv2)], [], h)
noncomputable def D_K_unlist_0 (z : xzs) (a0 : Nat) (p1 : Option Nat) (h : xH) : Option xR :=
  (rdR h a0 0 6).bind fun r1 =>
  r1.bind fun a2 =>
  (xisO h a2 7).bind fun _ => xclI (f_A_size z [.ref a2] h) fun x4 h3 =>
  B_K_unlist_10 z a0 p1 (x4 - (Int32.ofInt 1)) h3
theorem E_K_unlist (z : xzs) (a0 : Nat) (p1 : Option Nat) (h : xH) : xle (D_K_unlist_0 z a0 p1 h) (xfun (K_K_unlist z) 4 [.ref a0, va_rf p1] h) := by
  unfold D_K_unlist_0
  refine xle_entry (Nat.le_of_ble_eq_true rfl) (xal_c (xca_a _) (xal_c (xca_r _) (rfl))) ?_
  show xle _ (xev (K_K_unlist z) (0, [(0, .ref a0), (1, va_rf p1)], [], h))
  refine xle_next (i := .aload_n 0) (x' := (1, [(0, .ref a0), (1, va_rf p1)], [.ref a0], h)) rfl rfl rfl ?_
  refine xle_getR (f := (0, 6, .object "java/util/ArrayList", 0)) rfl rfl rfl (fun r1 => ?_)
  refine xle_some (fun r_ => (4, [(0, .ref a0), (1, va_rf p1)], [va_rf r_], h)) (fun a2 => ?_)
  refine xle_isO (i := .invokevirtual 253) (bq := a2) (ci := 7) (fo := (f_A_size z [.ref a2] h).bind (xback 4 [(0, .ref a0), (1, va_rf p1)] [])) rfl rfl rfl (fun hs => ?_)
  refine xle_clI (t := []) rfl rfl hs (fun x4 h3 => ?_)
  refine xle_next (i := .iconst 1) (x' := (8, [(0, .ref a0), (1, va_rf p1)], [.int (Int32.ofInt 1), .int x4], h3)) rfl rfl rfl ?_
  refine xle_next (i := .isub) (x' := (9, [(0, .ref a0), (1, va_rf p1)], [.int (x4 - (Int32.ofInt 1))], h3)) rfl rfl rfl ?_
  refine xle_next (i := .istore_n 2) (x' := (10, [(0, .ref a0), (1, va_rf p1), (2, .int (x4 - (Int32.ofInt 1)))], [], h3)) rfl rfl rfl ?_
  exact xle_jump rfl
noncomputable def D_K_unlist_10 (z : xzs) (a0 : Nat) (rv1 : Option Nat) (xv2 : Int32) (h : xH) : Option xR :=
  if xv2 < 0 then
    some (.inl none, h)
  else
    (rdR h a0 0 6).bind fun r5 =>
    r5.bind fun a6 =>
    (xisO h a6 7).bind fun _ => xclR (f_A_get z [.ref a6, .int xv2] h) fun r8 h7 =>
    (xcst h7 1 r8).bind fun _ =>
    if r8 = rv1 then
      (rdR h7 a0 0 6).bind fun r9 =>
      r9.bind fun a10 =>
      (xisO h7 a10 7).bind fun _ => xclR (f_A_remove z [.ref a10, .int xv2] h7) fun r12 h11 =>
      B_K_unlist_59 z a0 rv1 xv2 h11
    else
      r8.bind fun a13 =>
      (rdR h7 a13 1 3).bind fun r14 =>
      if r14 = rv1 then
        rv1.bind fun a15 =>
        (rdR h7 a15 1 3).bind fun r16 =>
        (xwr h7 a13 1 3 (va_rf r16)).bind fun h17 =>
        B_K_unlist_59 z a0 (some a15) xv2 h17
      else
        B_K_unlist_59 z a0 rv1 xv2 h7
theorem E_K_unlist_10 (z : xzs) (a0 : Nat) (rv1 : Option Nat) (xv2 : Int32) (h : xH) : xle (D_K_unlist_10 z a0 rv1 xv2 h) (B_K_unlist_10 z a0 rv1 xv2 h) := by
  unfold D_K_unlist_10 B_K_unlist_10
  refine xle_next (i := .iload_n 2) (x' := (11, [(0, .ref a0), (1, va_rf rv1), (2, .int xv2)], [.int xv2], h)) rfl rfl rfl ?_
  refine xle_if (cd := .lt) (q := 65) rfl rfl rfl xc_lt (fun _ => ?_) (fun _ => ?_)
  · exact xle_end (i := .return_) rfl rfl rfl
  · refine xle_next (i := .aload_n 0) (x' := (15, [(0, .ref a0), (1, va_rf rv1), (2, .int xv2)], [.ref a0], h)) rfl rfl rfl ?_
    refine xle_getR (f := (0, 6, .object "java/util/ArrayList", 0)) rfl rfl rfl (fun r5 => ?_)
    refine xle_next (i := .iload_n 2) (x' := (19, [(0, .ref a0), (1, va_rf rv1), (2, .int xv2)], [.int xv2, va_rf r5], h)) rfl rfl rfl ?_
    refine xle_some (fun r_ => (19, [(0, .ref a0), (1, va_rf rv1), (2, .int xv2)], [.int xv2, va_rf r_], h)) (fun a6 => ?_)
    refine xle_isO (i := .invokevirtual 307) (bq := a6) (ci := 7) (fo := (f_A_get z [.ref a6, .int xv2] h).bind (xback 19 [(0, .ref a0), (1, va_rf rv1), (2, .int xv2)] [])) rfl rfl rfl (fun hs => ?_)
    refine xle_clR (t := []) rfl rfl hs (fun r8 h7 => ?_)
    refine xle_cast (ci := 1) (y := r8) rfl rfl rfl ?_
    refine xle_astn (k := 3) (r := r8) (L' := [(0, .ref a0), (1, va_rf rv1), (2, .int xv2), (3, va_rf r8)]) rfl rfl rfl ?_
    refine xle_aldn (k := 3) (r := r8) rfl rfl rfl ?_
    refine xle_aldn (k := 1) (r := rv1) rfl rfl rfl ?_
    refine xle_ane (x := r8) (y := rv1) (q := 43) rfl rfl rfl ?_ ?_
    · refine xle_next (i := .aload_n 0) (x' := (32, [(0, .ref a0), (1, va_rf rv1), (2, .int xv2), (3, va_rf r8)], [.ref a0], h7)) rfl rfl rfl ?_
      refine xle_getR (f := (0, 6, .object "java/util/ArrayList", 0)) rfl rfl rfl (fun r9 => ?_)
      refine xle_next (i := .iload_n 2) (x' := (36, [(0, .ref a0), (1, va_rf rv1), (2, .int xv2), (3, va_rf r8)], [.int xv2, va_rf r9], h7)) rfl rfl rfl ?_
      refine xle_some (fun r_ => (36, [(0, .ref a0), (1, va_rf rv1), (2, .int xv2), (3, va_rf r8)], [.int xv2, va_rf r_], h7)) (fun a10 => ?_)
      refine xle_isO (i := .invokevirtual 323) (bq := a10) (ci := 7) (fo := (f_A_remove z [.ref a10, .int xv2] h7).bind (xback 36 [(0, .ref a0), (1, va_rf rv1), (2, .int xv2), (3, va_rf r8)] [])) rfl rfl rfl (fun hs => ?_)
      refine xle_clR (t := []) rfl rfl hs (fun r12 h11 => ?_)
      refine xle_popq (r := r12) rfl rfl ?_
      refine xle_next (i := .goto 19) (x' := (59, [(0, .ref a0), (1, va_rf rv1), (2, .int xv2), (3, va_rf r8)], [], h11)) rfl rfl rfl ?_
      exact xle_jump rfl
    · refine xle_aldn (k := 3) (r := r8) rfl rfl rfl ?_
      refine xle_some (fun r_ => (44, [(0, .ref a0), (1, va_rf rv1), (2, .int xv2), (3, va_rf r_)], [va_rf r_], h7)) (fun a13 => ?_)
      refine xle_getR (f := (1, 3, .object "CapKernel$Capability", 1)) rfl rfl rfl (fun r14 => ?_)
      refine xle_aldn (k := 1) (r := rv1) rfl rfl rfl ?_
      refine xle_ane (x := r14) (y := rv1) (q := 59) rfl rfl rfl ?_ ?_
      · refine xle_next (i := .aload_n 3) (x' := (52, [(0, .ref a0), (1, va_rf rv1), (2, .int xv2), (3, .ref a13)], [.ref a13], h7)) rfl rfl rfl ?_
        refine xle_aldn (k := 1) (r := rv1) rfl rfl rfl ?_
        refine xle_some (fun r_ => (53, [(0, .ref a0), (1, va_rf r_), (2, .int xv2), (3, .ref a13)], [va_rf r_, .ref a13], h7)) (fun a15 => ?_)
        refine xle_getR (f := (1, 3, .object "CapKernel$Capability", 1)) rfl rfl rfl (fun r16 => ?_)
        refine xle_put (v := va_rf r16) (f := (1, 3, .object "CapKernel$Capability", 1)) rfl rfl rfl ⟨by decide, xfit_obj _ _⟩ (fun h17 => ?_)
        exact xle_jump rfl
      · exact xle_jump rfl
noncomputable def D_K_unlist_59 (z : xzs) (a0 : Nat) (rv1 : Option Nat) (xv2 : Int32) (h : xH) : Option xR :=
  B_K_unlist_10 z a0 rv1 (xv2 + Int32.ofInt (-1)) h
theorem E_K_unlist_59 (z : xzs) (a0 : Nat) (rv1 : Option Nat) (xv2 : Int32) (h : xH) : xle (D_K_unlist_59 z a0 rv1 xv2 h) (B_K_unlist_59 z a0 rv1 xv2 h) := by
  unfold D_K_unlist_59 B_K_unlist_59
  refine xle_next (i := .iinc 2 (-1)) (x' := (62, [(0, .ref a0), (1, va_rf rv1), (2, .int (xv2 + Int32.ofInt (-1)))], [], h)) rfl rfl rfl ?_
  refine xle_next (i := .goto (-52)) (x' := (10, [(0, .ref a0), (1, va_rf rv1), (2, .int (xv2 + Int32.ofInt (-1)))], [], h)) rfl rfl rfl ?_
  exact xle_jump rfl
noncomputable def B_K_discard_56 (z : xzs) (g : xF) (xs0 : Int32) (h : xH) : Option xR := xev (K_K_discard z g) (56, [], [.int xs0], h)
noncomputable def D_K_discard_0 (z : xzs) (g : xF) (a0 : Nat) (p1 : Option Nat) (p2 : Int32) (h : xH) : Option xR :=
  if p2 ≤ ((Int8.ofInt 41).toInt32) then
    p1.bind fun a1 =>
    (xwr h a1 1 6 (.int (Int32.ofInt 1))).bind fun h2 =>
    (xisO h2 a1 1).bind fun _ => xclV (f_C_leaveSlot z [.ref a1] h2) fun h3 =>
    (xisO h3 a0 0).bind fun _ => xclV (f_K_unlist z [.ref a0, .ref a1] h3) fun h4 =>
    (rdR h4 a1 1 0).bind fun r5 =>
    r5.bind fun a6 =>
    (rdI h4 a6 5 7).bind fun x7 =>
    (xwr h4 a6 5 7 (.int (x7 - (Int32.ofInt 1)))).bind fun h8 =>
    (rdI h8 a6 5 7).bind fun x9 =>
    if ¬ x9 = 0 then
      B_K_discard_56 z g (Int32.ofInt 1) h8
    else
      (xisO h8 a0 0).bind fun _ => xclI (g [.ref a0, .ref a6, .int p2] h8) fun x11 h10 =>
      B_K_discard_56 z g ((Int32.ofInt 1) + x11) h10
  else
    some (.inl (some (.int (Int32.ofInt 0))), h)
theorem E_K_discard (z : xzs) (g : xF) (a0 : Nat) (p1 : Option Nat) (p2 : Int32) (h : xH) : xle (D_K_discard_0 z g a0 p1 p2 h) (xfun (K_K_discard z g) 4 [.ref a0, va_rf p1, .int p2] h) := by
  unfold D_K_discard_0
  refine xle_entry (Nat.le_of_ble_eq_true rfl) (xal_c (xca_a _) (xal_c (xca_r _) (xal_c (xca_i _) (rfl)))) ?_
  show xle _ (xev (K_K_discard z g) (0, [(0, .ref a0), (1, va_rf p1), (2, .int p2)], [], h))
  refine xle_next (i := .iload_n 2) (x' := (1, [(0, .ref a0), (1, va_rf p1), (2, .int p2)], [.int p2], h)) rfl rfl rfl ?_
  refine xle_next (i := .bipush 41) (x' := (3, [(0, .ref a0), (1, va_rf p1), (2, .int p2)], [.int ((Int8.ofInt 41).toInt32), .int p2], h)) rfl rfl rfl ?_
  refine xle_icmp (cd := .le) (q := 8) rfl rfl rfl xc_le (fun _ => ?_) (fun _ => ?_)
  · refine xle_aldn (k := 1) (r := p1) rfl rfl rfl ?_
    refine xle_next (i := .iconst 1) (x' := (10, [(0, .ref a0), (1, va_rf p1), (2, .int p2)], [.int (Int32.ofInt 1), va_rf p1], h)) rfl rfl rfl ?_
    refine xle_some (fun r_ => (10, [(0, .ref a0), (1, va_rf r_), (2, .int p2)], [.int (Int32.ofInt 1), va_rf r_], h)) (fun a1 => ?_)
    refine xle_put (v := .int (Int32.ofInt 1)) (f := (1, 6, .boolean, 1)) rfl rfl rfl ⟨by decide, by decide, by decide⟩ (fun h2 => ?_)
    refine xle_next (i := .aload_n 1) (x' := (14, [(0, .ref a0), (1, .ref a1), (2, .int p2)], [.ref a1], h2)) rfl rfl rfl ?_
    refine xle_isO (i := .invokevirtual 114) (bq := a1) (ci := 1) (fo := (f_C_leaveSlot z [.ref a1] h2).bind (xback 14 [(0, .ref a0), (1, .ref a1), (2, .int p2)] [])) rfl rfl rfl (fun hs => ?_)
    refine xle_clV (t := []) rfl rfl hs (fun h3 => ?_)
    refine xle_next (i := .aload_n 0) (x' := (18, [(0, .ref a0), (1, .ref a1), (2, .int p2)], [.ref a0], h3)) rfl rfl rfl ?_
    refine xle_next (i := .aload_n 1) (x' := (19, [(0, .ref a0), (1, .ref a1), (2, .int p2)], [.ref a1, .ref a0], h3)) rfl rfl rfl ?_
    refine xle_isO (i := .invokevirtual 315) (bq := a0) (ci := 0) (fo := (f_K_unlist z [.ref a0, .ref a1] h3).bind (xback 19 [(0, .ref a0), (1, .ref a1), (2, .int p2)] [])) rfl rfl rfl (fun hs => ?_)
    refine xle_clV (t := []) rfl rfl hs (fun h4 => ?_)
    refine xle_next (i := .aload_n 1) (x' := (23, [(0, .ref a0), (1, .ref a1), (2, .int p2)], [.ref a1], h4)) rfl rfl rfl ?_
    refine xle_getR (f := (1, 0, .object "CapKernel$Thing", 0)) rfl rfl rfl (fun r5 => ?_)
    refine xle_astn (k := 3) (r := r5) (L' := [(0, .ref a0), (1, .ref a1), (2, .int p2), (3, va_rf r5)]) rfl rfl rfl ?_
    refine xle_aldn (k := 3) (r := r5) rfl rfl rfl ?_
    refine xle_dupq (r := r5) rfl rfl ?_
    refine xle_some (fun r_ => (29, [(0, .ref a0), (1, .ref a1), (2, .int p2), (3, va_rf r_)], [va_rf r_, va_rf r_], h4)) (fun a6 => ?_)
    refine xle_getI (f := (5, 7, .int, 1)) rfl rfl rfl (fun x7 => ?_)
    refine xle_next (i := .iconst 1) (x' := (33, [(0, .ref a0), (1, .ref a1), (2, .int p2), (3, .ref a6)], [.int (Int32.ofInt 1), .int x7, .ref a6], h4)) rfl rfl rfl ?_
    refine xle_next (i := .isub) (x' := (34, [(0, .ref a0), (1, .ref a1), (2, .int p2), (3, .ref a6)], [.int (x7 - (Int32.ofInt 1)), .ref a6], h4)) rfl rfl rfl ?_
    refine xle_put (v := .int (x7 - (Int32.ofInt 1))) (f := (5, 7, .int, 1)) rfl rfl rfl ⟨by decide, rfl, rfl⟩ (fun h8 => ?_)
    refine xle_next (i := .aload_n 3) (x' := (38, [(0, .ref a0), (1, .ref a1), (2, .int p2), (3, .ref a6)], [.ref a6], h8)) rfl rfl rfl ?_
    refine xle_getI (f := (5, 7, .int, 1)) rfl rfl rfl (fun x9 => ?_)
    refine xle_if (cd := .ne) (q := 55) rfl rfl rfl xc_ne (fun _ => ?_) (fun _ => ?_)
    · refine xle_next (i := .iconst 1) (x' := (56, [(0, .ref a0), (1, .ref a1), (2, .int p2), (3, .ref a6)], [.int (Int32.ofInt 1)], h8)) rfl rfl rfl ?_
      exact xle_jump rfl
    · refine xle_next (i := .iconst 1) (x' := (45, [(0, .ref a0), (1, .ref a1), (2, .int p2), (3, .ref a6)], [.int (Int32.ofInt 1)], h8)) rfl rfl rfl ?_
      refine xle_next (i := .aload_n 0) (x' := (46, [(0, .ref a0), (1, .ref a1), (2, .int p2), (3, .ref a6)], [.ref a0, .int (Int32.ofInt 1)], h8)) rfl rfl rfl ?_
      refine xle_next (i := .aload_n 3) (x' := (47, [(0, .ref a0), (1, .ref a1), (2, .int p2), (3, .ref a6)], [.ref a6, .ref a0, .int (Int32.ofInt 1)], h8)) rfl rfl rfl ?_
      refine xle_next (i := .iload_n 2) (x' := (48, [(0, .ref a0), (1, .ref a1), (2, .int p2), (3, .ref a6)], [.int p2, .ref a6, .ref a0, .int (Int32.ofInt 1)], h8)) rfl rfl rfl ?_
      refine xle_isO (i := .invokevirtual 319) (bq := a0) (ci := 0) (fo := (g [.ref a0, .ref a6, .int p2] h8).bind (xback 48 [(0, .ref a0), (1, .ref a1), (2, .int p2), (3, .ref a6)] [.int (Int32.ofInt 1)])) rfl rfl rfl (fun hs => ?_)
      refine xle_clI (t := [.int (Int32.ofInt 1)]) rfl rfl hs (fun x11 h10 => ?_)
      refine xle_next (i := .iadd) (x' := (52, [(0, .ref a0), (1, .ref a1), (2, .int p2), (3, .ref a6)], [.int ((Int32.ofInt 1) + x11)], h10)) rfl rfl rfl ?_
      refine xle_next (i := .goto 4) (x' := (56, [(0, .ref a0), (1, .ref a1), (2, .int p2), (3, .ref a6)], [.int ((Int32.ofInt 1) + x11)], h10)) rfl rfl rfl ?_
      exact xle_jump rfl
  · refine xle_next (i := .iconst 0) (x' := (7, [(0, .ref a0), (1, va_rf p1), (2, .int p2)], [.int (Int32.ofInt 0)], h)) rfl rfl rfl ?_
    exact xle_end (i := .ireturn) rfl rfl rfl
noncomputable def D_K_discard_56 (z : xzs) (g : xF) (xs0 : Int32) (h : xH) : Option xR :=
  some (.inl (some (.int xs0)), h)
theorem E_K_discard_56 (z : xzs) (g : xF) (xs0 : Int32) (h : xH) : xle (D_K_discard_56 z g xs0 h) (B_K_discard_56 z g xs0 h) := by
  unfold D_K_discard_56 B_K_discard_56
  exact xle_end (i := .ireturn) rfl rfl rfl
noncomputable def D_K_makeReady_0 (z : xzs) (a0 : Nat) (p1 : Option Nat) (h : xH) : Option xR :=
  p1.bind fun a1 =>
  (xwr h a1 2 2 (.int (Int32.ofInt 0))).bind fun h2 =>
  (xwr h2 a1 2 10 (va_rf none)).bind fun h3 =>
  (xisO h3 a0 0).bind fun _ => xclI (f_K_nextStamp z [.ref a0] h3) fun x5 h4 =>
  (xwr h4 a1 2 8 (.int x5)).bind fun h6 =>
  some (.inl none, h6)
theorem E_K_makeReady (z : xzs) (a0 : Nat) (p1 : Option Nat) (h : xH) : xle (D_K_makeReady_0 z a0 p1 h) (xfun (K_K_makeReady z) 2 [.ref a0, va_rf p1] h) := by
  unfold D_K_makeReady_0
  refine xle_entry (Nat.le_of_ble_eq_true rfl) (xal_c (xca_a _) (xal_c (xca_r _) (rfl))) ?_
  show xle _ (xev (K_K_makeReady z) (0, [(0, .ref a0), (1, va_rf p1)], [], h))
  refine xle_aldn (k := 1) (r := p1) rfl rfl rfl ?_
  refine xle_next (i := .iconst 0) (x' := (2, [(0, .ref a0), (1, va_rf p1)], [.int (Int32.ofInt 0), va_rf p1], h)) rfl rfl rfl ?_
  refine xle_some (fun r_ => (2, [(0, .ref a0), (1, va_rf r_)], [.int (Int32.ofInt 0), va_rf r_], h)) (fun a1 => ?_)
  refine xle_put (v := .int (Int32.ofInt 0)) (f := (2, 2, .int, 1)) rfl rfl rfl ⟨by decide, rfl, rfl⟩ (fun h2 => ?_)
  refine xle_next (i := .aload_n 1) (x' := (6, [(0, .ref a0), (1, .ref a1)], [.ref a1], h2)) rfl rfl rfl ?_
  refine xle_next (i := .aconst_null) (x' := (7, [(0, .ref a0), (1, .ref a1)], [.null, .ref a1], h2)) rfl rfl rfl ?_
  refine xle_put (v := va_rf none) (f := (2, 10, .object "CapKernel$Thing", 1)) rfl rfl rfl ⟨by decide, xfit_obj _ _⟩ (fun h3 => ?_)
  refine xle_next (i := .aload_n 1) (x' := (11, [(0, .ref a0), (1, .ref a1)], [.ref a1], h3)) rfl rfl rfl ?_
  refine xle_next (i := .aload_n 0) (x' := (12, [(0, .ref a0), (1, .ref a1)], [.ref a0, .ref a1], h3)) rfl rfl rfl ?_
  refine xle_isO (i := .invokevirtual 41) (bq := a0) (ci := 0) (fo := (f_K_nextStamp z [.ref a0] h3).bind (xback 12 [(0, .ref a0), (1, .ref a1)] [.ref a1])) rfl rfl rfl (fun hs => ?_)
  refine xle_clI (t := [.ref a1]) rfl rfl hs (fun x5 h4 => ?_)
  refine xle_put (v := .int x5) (f := (2, 8, .int, 1)) rfl rfl rfl ⟨by decide, rfl, rfl⟩ (fun h6 => ?_)
  exact xle_end (i := .return_) rfl rfl rfl
noncomputable def B_K_firstAt_4 (z : xzs) (a0 : Nat) (rv1 : Option Nat) (rv2 : Option Nat) (xv3 : Int32) (h : xH) : Option xR := xev (K_K_firstAt z) (4, [(0, .ref a0), (1, va_rf rv1), (2, va_rf rv2), (3, .int xv3)], [], h)
noncomputable def B_K_firstAt_46 (z : xzs) (a0 : Nat) (rv1 : Option Nat) (xv3 : Int32) (rv4 : Option Nat) (h : xH) : Option xR := xev (K_K_firstAt z) (46, [(0, .ref a0), (1, va_rf rv1), (3, .int xv3), (4, va_rf rv4)], [], h)
noncomputable def B_K_firstAt_49 (z : xzs) (a0 : Nat) (rv1 : Option Nat) (rv2 : Option Nat) (xv3 : Int32) (h : xH) : Option xR := xev (K_K_firstAt z) (49, [(0, .ref a0), (1, va_rf rv1), (2, va_rf rv2), (3, .int xv3)], [], h)
noncomputable def D_K_firstAt_0 (z : xzs) (a0 : Nat) (p1 : Option Nat) (h : xH) : Option xR :=
  B_K_firstAt_4 z a0 p1 none (Int32.ofInt 0) h
theorem E_K_firstAt (z : xzs) (a0 : Nat) (p1 : Option Nat) (h : xH) : xle (D_K_firstAt_0 z a0 p1 h) (xfun (K_K_firstAt z) 5 [.ref a0, va_rf p1] h) := by
  unfold D_K_firstAt_0
  refine xle_entry (Nat.le_of_ble_eq_true rfl) (xal_c (xca_a _) (xal_c (xca_r _) (rfl))) ?_
  show xle _ (xev (K_K_firstAt z) (0, [(0, .ref a0), (1, va_rf p1)], [], h))
  refine xle_next (i := .aconst_null) (x' := (1, [(0, .ref a0), (1, va_rf p1)], [.null], h)) rfl rfl rfl ?_
  refine xle_next (i := .astore_n 2) (x' := (2, [(0, .ref a0), (1, va_rf p1), (2, .null)], [], h)) rfl rfl rfl ?_
  refine xle_next (i := .iconst 0) (x' := (3, [(0, .ref a0), (1, va_rf p1), (2, .null)], [.int (Int32.ofInt 0)], h)) rfl rfl rfl ?_
  refine xle_next (i := .istore_n 3) (x' := (4, [(0, .ref a0), (1, va_rf p1), (2, .null), (3, .int (Int32.ofInt 0))], [], h)) rfl rfl rfl ?_
  exact xle_jump rfl
noncomputable def D_K_firstAt_4 (z : xzs) (a0 : Nat) (rv1 : Option Nat) (rv2 : Option Nat) (xv3 : Int32) (h : xH) : Option xR :=
  (rdR h a0 0 0).bind fun r1 =>
  r1.bind fun a2 =>
  (xalen h a2).bind fun n3 =>
  if (Int32.ofNat n3) ≤ xv3 then
    some (.inl (some (va_rf rv2)), h)
  else
    (rdR h a0 0 0).bind fun r4 =>
    r4.bind fun a5 =>
    (rdQ h a5 xv3).bind fun r6 =>
    r6.bind fun a7 =>
    (rdR h a7 2 10).bind fun r8 =>
    if r8 = rv1 then
      xcase rv2 (
        B_K_firstAt_46 z a0 rv1 xv3 (some a7) h
      ) fun a9 =>
        (rdI h a7 2 9).bind fun x10 =>
        (rdI h a9 2 9).bind fun x11 =>
        if x11 ≤ x10 then
          B_K_firstAt_49 z a0 rv1 (some a9) xv3 h
        else
          B_K_firstAt_46 z a0 rv1 xv3 (some a7) h
    else
      B_K_firstAt_49 z a0 rv1 rv2 xv3 h
theorem E_K_firstAt_4 (z : xzs) (a0 : Nat) (rv1 : Option Nat) (rv2 : Option Nat) (xv3 : Int32) (h : xH) : xle (D_K_firstAt_4 z a0 rv1 rv2 xv3 h) (B_K_firstAt_4 z a0 rv1 rv2 xv3 h) := by
  unfold D_K_firstAt_4 B_K_firstAt_4
  refine xle_next (i := .iload_n 3) (x' := (5, [(0, .ref a0), (1, va_rf rv1), (2, va_rf rv2), (3, .int xv3)], [.int xv3], h)) rfl rfl rfl ?_
  refine xle_next (i := .aload_n 0) (x' := (6, [(0, .ref a0), (1, va_rf rv1), (2, va_rf rv2), (3, .int xv3)], [.ref a0, .int xv3], h)) rfl rfl rfl ?_
  refine xle_getR (f := (0, 0, .array (.object "CapKernel$Client"), 0)) rfl rfl rfl (fun r1 => ?_)
  refine xle_some (fun r_ => (9, [(0, .ref a0), (1, va_rf rv1), (2, va_rf rv2), (3, .int xv3)], [va_rf r_, .int xv3], h)) (fun a2 => ?_)
  refine xle_alen rfl rfl (fun n3 => ?_)
  refine xle_icmp (cd := .ge) (q := 55) rfl rfl rfl xc_ge (fun _ => ?_) (fun _ => ?_)
  · refine xle_aldn (k := 2) (r := rv2) rfl rfl rfl ?_
    exact xle_aret (r := rv2) rfl rfl rfl rfl
  · refine xle_next (i := .aload_n 0) (x' := (14, [(0, .ref a0), (1, va_rf rv1), (2, va_rf rv2), (3, .int xv3)], [.ref a0], h)) rfl rfl rfl ?_
    refine xle_getR (f := (0, 0, .array (.object "CapKernel$Client"), 0)) rfl rfl rfl (fun r4 => ?_)
    refine xle_next (i := .iload_n 3) (x' := (18, [(0, .ref a0), (1, va_rf rv1), (2, va_rf rv2), (3, .int xv3)], [.int xv3, va_rf r4], h)) rfl rfl rfl ?_
    refine xle_some (fun r_ => (18, [(0, .ref a0), (1, va_rf rv1), (2, va_rf rv2), (3, .int xv3)], [.int xv3, va_rf r_], h)) (fun a5 => ?_)
    refine xle_aald rfl rfl (fun r6 => ?_)
    refine xle_ast (k := 4) (r := r6) (L' := [(0, .ref a0), (1, va_rf rv1), (2, va_rf rv2), (3, .int xv3), (4, va_rf r6)]) rfl rfl rfl ?_
    refine xle_ald (k := 4) (r := r6) rfl rfl rfl ?_
    refine xle_some (fun r_ => (23, [(0, .ref a0), (1, va_rf rv1), (2, va_rf rv2), (3, .int xv3), (4, va_rf r_)], [va_rf r_], h)) (fun a7 => ?_)
    refine xle_getR (f := (2, 10, .object "CapKernel$Thing", 1)) rfl rfl rfl (fun r8 => ?_)
    refine xle_aldn (k := 1) (r := rv1) rfl rfl rfl ?_
    refine xle_ane (x := r8) (y := rv1) (q := 49) rfl rfl rfl ?_ ?_
    · refine xle_aldn (k := 2) (r := rv2) rfl rfl rfl ?_
      refine xle_case (fun r_ => (31, [(0, .ref a0), (1, va_rf rv1), (2, va_rf r_), (3, .int xv3), (4, .ref a7)], [va_rf r_], h)) ?_ (fun a9 => ?_)
      · refine xle_next (i := .ifnull 15) (x' := (46, [(0, .ref a0), (1, va_rf rv1), (2, .null), (3, .int xv3), (4, .ref a7)], [], h)) rfl rfl rfl ?_
        exact xle_jump rfl
      · refine xle_next (i := .ifnull 15) (x' := (34, [(0, .ref a0), (1, va_rf rv1), (2, .ref a9), (3, .int xv3), (4, .ref a7)], [], h)) rfl rfl rfl ?_
        refine xle_next (i := .aload 4) (x' := (36, [(0, .ref a0), (1, va_rf rv1), (2, .ref a9), (3, .int xv3), (4, .ref a7)], [.ref a7], h)) rfl rfl rfl ?_
        refine xle_getI (f := (2, 9, .int, 1)) rfl rfl rfl (fun x10 => ?_)
        refine xle_next (i := .aload_n 2) (x' := (40, [(0, .ref a0), (1, va_rf rv1), (2, .ref a9), (3, .int xv3), (4, .ref a7)], [.ref a9, .int x10], h)) rfl rfl rfl ?_
        refine xle_getI (f := (2, 9, .int, 1)) rfl rfl rfl (fun x11 => ?_)
        refine xle_icmp (cd := .ge) (q := 49) rfl rfl rfl xc_ge (fun _ => ?_) (fun _ => ?_)
        · exact xle_jump rfl
        · exact xle_jump rfl
    · exact xle_jump rfl
noncomputable def D_K_firstAt_46 (z : xzs) (a0 : Nat) (rv1 : Option Nat) (xv3 : Int32) (rv4 : Option Nat) (h : xH) : Option xR :=
  B_K_firstAt_49 z a0 rv1 rv4 xv3 h
theorem E_K_firstAt_46 (z : xzs) (a0 : Nat) (rv1 : Option Nat) (xv3 : Int32) (rv4 : Option Nat) (h : xH) : xle (D_K_firstAt_46 z a0 rv1 xv3 rv4 h) (B_K_firstAt_46 z a0 rv1 xv3 rv4 h) := by
  unfold D_K_firstAt_46 B_K_firstAt_46
  refine xle_ald (k := 4) (r := rv4) rfl rfl rfl ?_
  refine xle_astn (k := 2) (r := rv4) (L' := [(0, .ref a0), (1, va_rf rv1), (2, va_rf rv4), (3, .int xv3), (4, va_rf rv4)]) rfl rfl rfl ?_
  exact xle_jump rfl
noncomputable def D_K_firstAt_49 (z : xzs) (a0 : Nat) (rv1 : Option Nat) (rv2 : Option Nat) (xv3 : Int32) (h : xH) : Option xR :=
  B_K_firstAt_4 z a0 rv1 rv2 (xv3 + Int32.ofInt 1) h
theorem E_K_firstAt_49 (z : xzs) (a0 : Nat) (rv1 : Option Nat) (rv2 : Option Nat) (xv3 : Int32) (h : xH) : xle (D_K_firstAt_49 z a0 rv1 rv2 xv3 h) (B_K_firstAt_49 z a0 rv1 rv2 xv3 h) := by
  unfold D_K_firstAt_49 B_K_firstAt_49
  refine xle_next (i := .iinc 3 1) (x' := (52, [(0, .ref a0), (1, va_rf rv1), (2, va_rf rv2), (3, .int (xv3 + Int32.ofInt 1))], [], h)) rfl rfl rfl ?_
  refine xle_next (i := .goto (-48)) (x' := (4, [(0, .ref a0), (1, va_rf rv1), (2, va_rf rv2), (3, .int (xv3 + Int32.ofInt 1))], [], h)) rfl rfl rfl ?_
  exact xle_jump rfl
noncomputable def B_K_abortAllAt_2 (z : xzs) (a0 : Nat) (rv1 : Option Nat) (xv2 : Int32) (h : xH) : Option xR := xev (K_K_abortAllAt z) (2, [(0, .ref a0), (1, va_rf rv1), (2, .int xv2)], [], h)
noncomputable def B_K_abortAllAt_27 (z : xzs) (a0 : Nat) (rv1 : Option Nat) (xv2 : Int32) (h : xH) : Option xR := xev (K_K_abortAllAt z) (27, [(0, .ref a0), (1, va_rf rv1), (2, .int xv2)], [], h)
noncomputable def D_K_abortAllAt_0 (z : xzs) (a0 : Nat) (p1 : Option Nat) (h : xH) : Option xR :=
  B_K_abortAllAt_2 z a0 p1 (Int32.ofInt 0) h
theorem E_K_abortAllAt (z : xzs) (a0 : Nat) (p1 : Option Nat) (h : xH) : xle (D_K_abortAllAt_0 z a0 p1 h) (xfun (K_K_abortAllAt z) 4 [.ref a0, va_rf p1] h) := by
  unfold D_K_abortAllAt_0
  refine xle_entry (Nat.le_of_ble_eq_true rfl) (xal_c (xca_a _) (xal_c (xca_r _) (rfl))) ?_
  show xle _ (xev (K_K_abortAllAt z) (0, [(0, .ref a0), (1, va_rf p1)], [], h))
  refine xle_next (i := .iconst 0) (x' := (1, [(0, .ref a0), (1, va_rf p1)], [.int (Int32.ofInt 0)], h)) rfl rfl rfl ?_
  refine xle_next (i := .istore_n 2) (x' := (2, [(0, .ref a0), (1, va_rf p1), (2, .int (Int32.ofInt 0))], [], h)) rfl rfl rfl ?_
  exact xle_jump rfl
noncomputable def D_K_abortAllAt_2 (z : xzs) (a0 : Nat) (rv1 : Option Nat) (xv2 : Int32) (h : xH) : Option xR :=
  if (Int32.ofInt 3) ≤ xv2 then
    some (.inl none, h)
  else
    (xisO h a0 0).bind fun _ => xclR (f_K_firstAt z [.ref a0, va_rf rv1] h) fun r2 h1 =>
    xcase r2 (
      B_K_abortAllAt_27 z a0 rv1 xv2 h1
    ) fun a3 =>
      (xwr h1 a3 2 3 (.int (Int32.ofInt 1))).bind fun h4 =>
      (xisO h4 a0 0).bind fun _ => xclV (f_K_makeReady z [.ref a0, .ref a3] h4) fun h5 =>
      B_K_abortAllAt_27 z a0 rv1 xv2 h5
theorem E_K_abortAllAt_2 (z : xzs) (a0 : Nat) (rv1 : Option Nat) (xv2 : Int32) (h : xH) : xle (D_K_abortAllAt_2 z a0 rv1 xv2 h) (B_K_abortAllAt_2 z a0 rv1 xv2 h) := by
  unfold D_K_abortAllAt_2 B_K_abortAllAt_2
  refine xle_next (i := .iload_n 2) (x' := (3, [(0, .ref a0), (1, va_rf rv1), (2, .int xv2)], [.int xv2], h)) rfl rfl rfl ?_
  refine xle_next (i := .iconst 3) (x' := (4, [(0, .ref a0), (1, va_rf rv1), (2, .int xv2)], [.int (Int32.ofInt 3), .int xv2], h)) rfl rfl rfl ?_
  refine xle_icmp (cd := .ge) (q := 33) rfl rfl rfl xc_ge (fun _ => ?_) (fun _ => ?_)
  · exact xle_end (i := .return_) rfl rfl rfl
  · refine xle_next (i := .aload_n 0) (x' := (8, [(0, .ref a0), (1, va_rf rv1), (2, .int xv2)], [.ref a0], h)) rfl rfl rfl ?_
    refine xle_aldn (k := 1) (r := rv1) rfl rfl rfl ?_
    refine xle_isO (i := .invokevirtual 214) (bq := a0) (ci := 0) (fo := (f_K_firstAt z [.ref a0, va_rf rv1] h).bind (xback 9 [(0, .ref a0), (1, va_rf rv1), (2, .int xv2)] [])) rfl rfl rfl (fun hs => ?_)
    refine xle_clR (t := []) rfl rfl hs (fun r2 h1 => ?_)
    refine xle_astn (k := 3) (r := r2) (L' := [(0, .ref a0), (1, va_rf rv1), (2, .int xv2), (3, va_rf r2)]) rfl rfl rfl ?_
    refine xle_aldn (k := 3) (r := r2) rfl rfl rfl ?_
    refine xle_case (fun r_ => (14, [(0, .ref a0), (1, va_rf rv1), (2, .int xv2), (3, va_rf r_)], [va_rf r_], h1)) ?_ (fun a3 => ?_)
    · refine xle_next (i := .ifnull 13) (x' := (27, [(0, .ref a0), (1, va_rf rv1), (2, .int xv2), (3, .null)], [], h1)) rfl rfl rfl ?_
      exact xle_jump rfl
    · refine xle_next (i := .ifnull 13) (x' := (17, [(0, .ref a0), (1, va_rf rv1), (2, .int xv2), (3, .ref a3)], [], h1)) rfl rfl rfl ?_
      refine xle_next (i := .aload_n 3) (x' := (18, [(0, .ref a0), (1, va_rf rv1), (2, .int xv2), (3, .ref a3)], [.ref a3], h1)) rfl rfl rfl ?_
      refine xle_next (i := .iconst 1) (x' := (19, [(0, .ref a0), (1, va_rf rv1), (2, .int xv2), (3, .ref a3)], [.int (Int32.ofInt 1), .ref a3], h1)) rfl rfl rfl ?_
      refine xle_put (v := .int (Int32.ofInt 1)) (f := (2, 3, .int, 1)) rfl rfl rfl ⟨by decide, rfl, rfl⟩ (fun h4 => ?_)
      refine xle_next (i := .aload_n 0) (x' := (23, [(0, .ref a0), (1, va_rf rv1), (2, .int xv2), (3, .ref a3)], [.ref a0], h4)) rfl rfl rfl ?_
      refine xle_next (i := .aload_n 3) (x' := (24, [(0, .ref a0), (1, va_rf rv1), (2, .int xv2), (3, .ref a3)], [.ref a3, .ref a0], h4)) rfl rfl rfl ?_
      refine xle_isO (i := .invokevirtual 169) (bq := a0) (ci := 0) (fo := (f_K_makeReady z [.ref a0, .ref a3] h4).bind (xback 24 [(0, .ref a0), (1, va_rf rv1), (2, .int xv2), (3, .ref a3)] [])) rfl rfl rfl (fun hs => ?_)
      refine xle_clV (t := []) rfl rfl hs (fun h5 => ?_)
      exact xle_jump rfl
noncomputable def D_K_abortAllAt_27 (z : xzs) (a0 : Nat) (rv1 : Option Nat) (xv2 : Int32) (h : xH) : Option xR :=
  B_K_abortAllAt_2 z a0 rv1 (xv2 + Int32.ofInt 1) h
theorem E_K_abortAllAt_27 (z : xzs) (a0 : Nat) (rv1 : Option Nat) (xv2 : Int32) (h : xH) : xle (D_K_abortAllAt_27 z a0 rv1 xv2 h) (B_K_abortAllAt_27 z a0 rv1 xv2 h) := by
  unfold D_K_abortAllAt_27 B_K_abortAllAt_27
  refine xle_next (i := .iinc 2 1) (x' := (30, [(0, .ref a0), (1, va_rf rv1), (2, .int (xv2 + Int32.ofInt 1))], [], h)) rfl rfl rfl ?_
  refine xle_next (i := .goto (-28)) (x' := (2, [(0, .ref a0), (1, va_rf rv1), (2, .int (xv2 + Int32.ofInt 1))], [], h)) rfl rfl rfl ?_
  exact xle_jump rfl
noncomputable def B_K_endThing_44 (z : xzs) (g : xF) (a0 : Nat) (rv1 : Option Nat) (xv2 : Int32) (h : xH) : Option xR := xev (K_K_endThing z g) (44, [(0, .ref a0), (1, va_rf rv1), (2, .int xv2)], [], h)
noncomputable def B_K_endThing_54 (z : xzs) (g : xF) (a0 : Nat) (rv1 : Option Nat) (xv2 : Int32) (xv3 : Int32) (xv4 : Int32) (h : xH) : Option xR := xev (K_K_endThing z g) (54, [(0, .ref a0), (1, va_rf rv1), (2, .int xv2), (3, .int xv3), (4, .int xv4)], [], h)
noncomputable def B_K_endThing_89 (z : xzs) (g : xF) (a0 : Nat) (rv1 : Option Nat) (xv2 : Int32) (xv3 : Int32) (xv4 : Int32) (h : xH) : Option xR := xev (K_K_endThing z g) (89, [(0, .ref a0), (1, va_rf rv1), (2, .int xv2), (3, .int xv3), (4, .int xv4)], [], h)
noncomputable def D_K_endThing_0 (z : xzs) (g : xF) (a0 : Nat) (p1 : Option Nat) (p2 : Int32) (h : xH) : Option xR :=
  p1.bind fun a1 =>
  (rdI h a1 5 2).bind fun x2 =>
  if x2 = 0 then
    (xwr h a1 5 9 (.int (Int32.ofInt 1))).bind fun h3 =>
    (rdR h3 a1 5 10).bind fun r4 =>
    xcase r4 (
      B_K_endThing_44 z g a0 (some a1) p2 h3
    ) fun a5 =>
      (rdR h3 a1 5 10).bind fun r6 =>
      r6.bind fun a7 =>
      (rdI h3 a7 5 8).bind fun x8 =>
      (xwr h3 a7 5 8 (.int (x8 - (Int32.ofInt 1)))).bind fun h9 =>
      (rdI h9 a0 0 4).bind fun x10 =>
      (xwr h9 a0 0 4 (.int (x10 - (Int32.ofInt 1)))).bind fun h11 =>
      B_K_endThing_44 z g a0 (some a1) p2 h11
  else
    some (.inl (some (.int (Int32.ofInt 0))), h)
theorem E_K_endThing (z : xzs) (g : xF) (a0 : Nat) (p1 : Option Nat) (p2 : Int32) (h : xH) : xle (D_K_endThing_0 z g a0 p1 p2 h) (xfun (K_K_endThing z g) 6 [.ref a0, va_rf p1, .int p2] h) := by
  unfold D_K_endThing_0
  refine xle_entry (Nat.le_of_ble_eq_true rfl) (xal_c (xca_a _) (xal_c (xca_r _) (xal_c (xca_i _) (rfl)))) ?_
  show xle _ (xev (K_K_endThing z g) (0, [(0, .ref a0), (1, va_rf p1), (2, .int p2)], [], h))
  refine xle_aldn (k := 1) (r := p1) rfl rfl rfl ?_
  refine xle_some (fun r_ => (1, [(0, .ref a0), (1, va_rf r_), (2, .int p2)], [va_rf r_], h)) (fun a1 => ?_)
  refine xle_getI (f := (5, 2, .int, 0)) rfl rfl rfl (fun x2 => ?_)
  refine xle_if (cd := .eq) (q := 9) rfl rfl rfl xc_eq (fun _ => ?_) (fun _ => ?_)
  · refine xle_next (i := .aload_n 1) (x' := (10, [(0, .ref a0), (1, .ref a1), (2, .int p2)], [.ref a1], h)) rfl rfl rfl ?_
    refine xle_next (i := .iconst 1) (x' := (11, [(0, .ref a0), (1, .ref a1), (2, .int p2)], [.int (Int32.ofInt 1), .ref a1], h)) rfl rfl rfl ?_
    refine xle_put (v := .int (Int32.ofInt 1)) (f := (5, 9, .boolean, 1)) rfl rfl rfl ⟨by decide, by decide, by decide⟩ (fun h3 => ?_)
    refine xle_next (i := .aload_n 1) (x' := (15, [(0, .ref a0), (1, .ref a1), (2, .int p2)], [.ref a1], h3)) rfl rfl rfl ?_
    refine xle_getR (f := (5, 10, .object "CapKernel$Thing", 1)) rfl rfl rfl (fun r4 => ?_)
    refine xle_case (fun r_ => (18, [(0, .ref a0), (1, .ref a1), (2, .int p2)], [va_rf r_], h3)) ?_ (fun a5 => ?_)
    · refine xle_next (i := .ifnull 26) (x' := (44, [(0, .ref a0), (1, .ref a1), (2, .int p2)], [], h3)) rfl rfl rfl ?_
      exact xle_jump rfl
    · refine xle_next (i := .ifnull 26) (x' := (21, [(0, .ref a0), (1, .ref a1), (2, .int p2)], [], h3)) rfl rfl rfl ?_
      refine xle_next (i := .aload_n 1) (x' := (22, [(0, .ref a0), (1, .ref a1), (2, .int p2)], [.ref a1], h3)) rfl rfl rfl ?_
      refine xle_getR (f := (5, 10, .object "CapKernel$Thing", 1)) rfl rfl rfl (fun r6 => ?_)
      refine xle_dupq (r := r6) rfl rfl ?_
      refine xle_some (fun r_ => (26, [(0, .ref a0), (1, .ref a1), (2, .int p2)], [va_rf r_, va_rf r_], h3)) (fun a7 => ?_)
      refine xle_getI (f := (5, 8, .int, 1)) rfl rfl rfl (fun x8 => ?_)
      refine xle_next (i := .iconst 1) (x' := (30, [(0, .ref a0), (1, .ref a1), (2, .int p2)], [.int (Int32.ofInt 1), .int x8, .ref a7], h3)) rfl rfl rfl ?_
      refine xle_next (i := .isub) (x' := (31, [(0, .ref a0), (1, .ref a1), (2, .int p2)], [.int (x8 - (Int32.ofInt 1)), .ref a7], h3)) rfl rfl rfl ?_
      refine xle_put (v := .int (x8 - (Int32.ofInt 1))) (f := (5, 8, .int, 1)) rfl rfl rfl ⟨by decide, rfl, rfl⟩ (fun h9 => ?_)
      refine xle_next (i := .aload_n 0) (x' := (35, [(0, .ref a0), (1, .ref a1), (2, .int p2)], [.ref a0], h9)) rfl rfl rfl ?_
      refine xle_next (i := .dup) (x' := (36, [(0, .ref a0), (1, .ref a1), (2, .int p2)], [.ref a0, .ref a0], h9)) rfl rfl rfl ?_
      refine xle_getI (f := (0, 4, .int, 1)) rfl rfl rfl (fun x10 => ?_)
      refine xle_next (i := .iconst 1) (x' := (40, [(0, .ref a0), (1, .ref a1), (2, .int p2)], [.int (Int32.ofInt 1), .int x10, .ref a0], h9)) rfl rfl rfl ?_
      refine xle_next (i := .isub) (x' := (41, [(0, .ref a0), (1, .ref a1), (2, .int p2)], [.int (x10 - (Int32.ofInt 1)), .ref a0], h9)) rfl rfl rfl ?_
      refine xle_put (v := .int (x10 - (Int32.ofInt 1))) (f := (0, 4, .int, 1)) rfl rfl rfl ⟨by decide, rfl, rfl⟩ (fun h11 => ?_)
      exact xle_jump rfl
  · refine xle_next (i := .iconst 0) (x' := (8, [(0, .ref a0), (1, .ref a1), (2, .int p2)], [.int (Int32.ofInt 0)], h)) rfl rfl rfl ?_
    exact xle_end (i := .ireturn) rfl rfl rfl
noncomputable def D_K_endThing_44 (z : xzs) (g : xF) (a0 : Nat) (rv1 : Option Nat) (xv2 : Int32) (h : xH) : Option xR :=
  (xisO h a0 0).bind fun _ => xclV (f_K_abortAllAt z [.ref a0, va_rf rv1] h) fun h12 =>
  B_K_endThing_54 z g a0 rv1 xv2 (Int32.ofInt 0) (Int32.ofInt 0) h12
theorem E_K_endThing_44 (z : xzs) (g : xF) (a0 : Nat) (rv1 : Option Nat) (xv2 : Int32) (h : xH) : xle (D_K_endThing_44 z g a0 rv1 xv2 h) (B_K_endThing_44 z g a0 rv1 xv2 h) := by
  unfold D_K_endThing_44 B_K_endThing_44
  refine xle_next (i := .aload_n 0) (x' := (45, [(0, .ref a0), (1, va_rf rv1), (2, .int xv2)], [.ref a0], h)) rfl rfl rfl ?_
  refine xle_aldn (k := 1) (r := rv1) rfl rfl rfl ?_
  refine xle_isO (i := .invokevirtual 331) (bq := a0) (ci := 0) (fo := (f_K_abortAllAt z [.ref a0, va_rf rv1] h).bind (xback 46 [(0, .ref a0), (1, va_rf rv1), (2, .int xv2)] [])) rfl rfl rfl (fun hs => ?_)
  refine xle_clV (t := []) rfl rfl hs (fun h12 => ?_)
  refine xle_next (i := .iconst 0) (x' := (50, [(0, .ref a0), (1, va_rf rv1), (2, .int xv2)], [.int (Int32.ofInt 0)], h12)) rfl rfl rfl ?_
  refine xle_next (i := .istore_n 3) (x' := (51, [(0, .ref a0), (1, va_rf rv1), (2, .int xv2), (3, .int (Int32.ofInt 0))], [], h12)) rfl rfl rfl ?_
  refine xle_next (i := .iconst 0) (x' := (52, [(0, .ref a0), (1, va_rf rv1), (2, .int xv2), (3, .int (Int32.ofInt 0))], [.int (Int32.ofInt 0)], h12)) rfl rfl rfl ?_
  refine xle_next (i := .istore 4) (x' := (54, [(0, .ref a0), (1, va_rf rv1), (2, .int xv2), (3, .int (Int32.ofInt 0)), (4, .int (Int32.ofInt 0))], [], h12)) rfl rfl rfl ?_
  exact xle_jump rfl
noncomputable def D_K_endThing_54 (z : xzs) (g : xF) (a0 : Nat) (rv1 : Option Nat) (xv2 : Int32) (xv3 : Int32) (xv4 : Int32) (h : xH) : Option xR :=
  rv1.bind fun a13 =>
  (rdR h a13 5 3).bind fun r14 =>
  r14.bind fun a15 =>
  (xalen h a15).bind fun n16 =>
  if (Int32.ofNat n16) ≤ xv4 then
    some (.inl (some (.int xv3)), h)
  else
    (xisO h a13 5).bind fun _ => xclR (f_T_held z [.ref a13, .int xv4] h) fun r18 h17 =>
    xcase r18 (
      B_K_endThing_89 z g a0 (some a13) xv2 xv3 xv4 h17
    ) fun a19 =>
      (xisO h17 a0 0).bind fun _ => xclI (g [.ref a0, .ref a19, .int (xv2 + (Int32.ofInt 1))] h17) fun x21 h20 =>
      B_K_endThing_89 z g a0 (some a13) xv2 (xv3 + x21) xv4 h20
theorem E_K_endThing_54 (z : xzs) (g : xF) (a0 : Nat) (rv1 : Option Nat) (xv2 : Int32) (xv3 : Int32) (xv4 : Int32) (h : xH) : xle (D_K_endThing_54 z g a0 rv1 xv2 xv3 xv4 h) (B_K_endThing_54 z g a0 rv1 xv2 xv3 xv4 h) := by
  unfold D_K_endThing_54 B_K_endThing_54
  refine xle_next (i := .iload 4) (x' := (56, [(0, .ref a0), (1, va_rf rv1), (2, .int xv2), (3, .int xv3), (4, .int xv4)], [.int xv4], h)) rfl rfl rfl ?_
  refine xle_aldn (k := 1) (r := rv1) rfl rfl rfl ?_
  refine xle_some (fun r_ => (57, [(0, .ref a0), (1, va_rf r_), (2, .int xv2), (3, .int xv3), (4, .int xv4)], [va_rf r_, .int xv4], h)) (fun a13 => ?_)
  refine xle_getR (f := (5, 3, .array (.object "CapKernel$Capability"), 0)) rfl rfl rfl (fun r14 => ?_)
  refine xle_some (fun r_ => (60, [(0, .ref a0), (1, .ref a13), (2, .int xv2), (3, .int xv3), (4, .int xv4)], [va_rf r_, .int xv4], h)) (fun a15 => ?_)
  refine xle_alen rfl rfl (fun n16 => ?_)
  refine xle_icmp (cd := .ge) (q := 95) rfl rfl rfl xc_ge (fun _ => ?_) (fun _ => ?_)
  · refine xle_next (i := .iload_n 3) (x' := (96, [(0, .ref a0), (1, .ref a13), (2, .int xv2), (3, .int xv3), (4, .int xv4)], [.int xv3], h)) rfl rfl rfl ?_
    exact xle_end (i := .ireturn) rfl rfl rfl
  · refine xle_next (i := .aload_n 1) (x' := (65, [(0, .ref a0), (1, .ref a13), (2, .int xv2), (3, .int xv3), (4, .int xv4)], [.ref a13], h)) rfl rfl rfl ?_
    refine xle_next (i := .iload 4) (x' := (67, [(0, .ref a0), (1, .ref a13), (2, .int xv2), (3, .int xv3), (4, .int xv4)], [.int xv4, .ref a13], h)) rfl rfl rfl ?_
    refine xle_isO (i := .invokevirtual 279) (bq := a13) (ci := 5) (fo := (f_T_held z [.ref a13, .int xv4] h).bind (xback 67 [(0, .ref a0), (1, .ref a13), (2, .int xv2), (3, .int xv3), (4, .int xv4)] [])) rfl rfl rfl (fun hs => ?_)
    refine xle_clR (t := []) rfl rfl hs (fun r18 h17 => ?_)
    refine xle_ast (k := 5) (r := r18) (L' := [(0, .ref a0), (1, .ref a13), (2, .int xv2), (3, .int xv3), (4, .int xv4), (5, va_rf r18)]) rfl rfl rfl ?_
    refine xle_ald (k := 5) (r := r18) rfl rfl rfl ?_
    refine xle_case (fun r_ => (74, [(0, .ref a0), (1, .ref a13), (2, .int xv2), (3, .int xv3), (4, .int xv4), (5, va_rf r_)], [va_rf r_], h17)) ?_ (fun a19 => ?_)
    · refine xle_next (i := .ifnull 15) (x' := (89, [(0, .ref a0), (1, .ref a13), (2, .int xv2), (3, .int xv3), (4, .int xv4), (5, .null)], [], h17)) rfl rfl rfl ?_
      exact xle_jump rfl
    · refine xle_next (i := .ifnull 15) (x' := (77, [(0, .ref a0), (1, .ref a13), (2, .int xv2), (3, .int xv3), (4, .int xv4), (5, .ref a19)], [], h17)) rfl rfl rfl ?_
      refine xle_next (i := .iload_n 3) (x' := (78, [(0, .ref a0), (1, .ref a13), (2, .int xv2), (3, .int xv3), (4, .int xv4), (5, .ref a19)], [.int xv3], h17)) rfl rfl rfl ?_
      refine xle_next (i := .aload_n 0) (x' := (79, [(0, .ref a0), (1, .ref a13), (2, .int xv2), (3, .int xv3), (4, .int xv4), (5, .ref a19)], [.ref a0, .int xv3], h17)) rfl rfl rfl ?_
      refine xle_next (i := .aload 5) (x' := (81, [(0, .ref a0), (1, .ref a13), (2, .int xv2), (3, .int xv3), (4, .int xv4), (5, .ref a19)], [.ref a19, .ref a0, .int xv3], h17)) rfl rfl rfl ?_
      refine xle_next (i := .iload_n 2) (x' := (82, [(0, .ref a0), (1, .ref a13), (2, .int xv2), (3, .int xv3), (4, .int xv4), (5, .ref a19)], [.int xv2, .ref a19, .ref a0, .int xv3], h17)) rfl rfl rfl ?_
      refine xle_next (i := .iconst 1) (x' := (83, [(0, .ref a0), (1, .ref a13), (2, .int xv2), (3, .int xv3), (4, .int xv4), (5, .ref a19)], [.int (Int32.ofInt 1), .int xv2, .ref a19, .ref a0, .int xv3], h17)) rfl rfl rfl ?_
      refine xle_next (i := .iadd) (x' := (84, [(0, .ref a0), (1, .ref a13), (2, .int xv2), (3, .int xv3), (4, .int xv4), (5, .ref a19)], [.int (xv2 + (Int32.ofInt 1)), .ref a19, .ref a0, .int xv3], h17)) rfl rfl rfl ?_
      refine xle_isO (i := .invokevirtual 121) (bq := a0) (ci := 0) (fo := (g [.ref a0, .ref a19, .int (xv2 + (Int32.ofInt 1))] h17).bind (xback 84 [(0, .ref a0), (1, .ref a13), (2, .int xv2), (3, .int xv3), (4, .int xv4), (5, .ref a19)] [.int xv3])) rfl rfl rfl (fun hs => ?_)
      refine xle_clI (t := [.int xv3]) rfl rfl hs (fun x21 h20 => ?_)
      refine xle_next (i := .iadd) (x' := (88, [(0, .ref a0), (1, .ref a13), (2, .int xv2), (3, .int xv3), (4, .int xv4), (5, .ref a19)], [.int (xv3 + x21)], h20)) rfl rfl rfl ?_
      refine xle_next (i := .istore_n 3) (x' := (89, [(0, .ref a0), (1, .ref a13), (2, .int xv2), (3, .int (xv3 + x21)), (4, .int xv4), (5, .ref a19)], [], h20)) rfl rfl rfl ?_
      exact xle_jump rfl
noncomputable def D_K_endThing_89 (z : xzs) (g : xF) (a0 : Nat) (rv1 : Option Nat) (xv2 : Int32) (xv3 : Int32) (xv4 : Int32) (h : xH) : Option xR :=
  B_K_endThing_54 z g a0 rv1 xv2 xv3 (xv4 + Int32.ofInt 1) h
theorem E_K_endThing_89 (z : xzs) (g : xF) (a0 : Nat) (rv1 : Option Nat) (xv2 : Int32) (xv3 : Int32) (xv4 : Int32) (h : xH) : xle (D_K_endThing_89 z g a0 rv1 xv2 xv3 xv4 h) (B_K_endThing_89 z g a0 rv1 xv2 xv3 xv4 h) := by
  unfold D_K_endThing_89 B_K_endThing_89
  refine xle_next (i := .iinc 4 1) (x' := (92, [(0, .ref a0), (1, va_rf rv1), (2, .int xv2), (3, .int xv3), (4, .int (xv4 + Int32.ofInt 1))], [], h)) rfl rfl rfl ?_
  refine xle_next (i := .goto (-38)) (x' := (54, [(0, .ref a0), (1, va_rf rv1), (2, .int xv2), (3, .int xv3), (4, .int (xv4 + Int32.ofInt 1))], [], h)) rfl rfl rfl ?_
  exact xle_jump rfl
noncomputable def D_K_delete_0 (z : xzs) (a0 : Nat) (p1 : Int32) (h : xH) : Option xR :=
  (xisO h a0 0).bind fun _ => xclR (f_K_actor z [.ref a0] h) fun r2 h1 =>
  xclI (f_K_isAddress z [.int p1] h1) fun x4 h3 =>
  xclV (f_K_needNumbers z [.int x4] h3) fun h5 =>
  xclR (f_K_capabilityAt z [va_rf r2, .int p1] h5) fun r7 h6 =>
  (xisO h6 a0 0).bind fun _ => xclI (f_K_discard z [.ref a0, va_rf r7, .int (Int32.ofInt 0)] h6) fun x9 h8 =>
  some (.inl (some (.int x9)), h8)
theorem E_K_delete (z : xzs) (a0 : Nat) (p1 : Int32) (h : xH) : xle (D_K_delete_0 z a0 p1 h) (xfun (K_K_delete z) 3 [.ref a0, .int p1] h) := by
  unfold D_K_delete_0
  refine xle_entry (Nat.le_of_ble_eq_true rfl) (xal_c (xca_a _) (xal_c (xca_i _) (rfl))) ?_
  show xle _ (xev (K_K_delete z) (0, [(0, .ref a0), (1, .int p1)], [], h))
  refine xle_next (i := .aload_n 0) (x' := (1, [(0, .ref a0), (1, .int p1)], [.ref a0], h)) rfl rfl rfl ?_
  refine xle_isO (i := .invokevirtual 64) (bq := a0) (ci := 0) (fo := (f_K_actor z [.ref a0] h).bind (xback 1 [(0, .ref a0), (1, .int p1)] [])) rfl rfl rfl (fun hs => ?_)
  refine xle_clR (t := []) rfl rfl hs (fun r2 h1 => ?_)
  refine xle_astn (k := 2) (r := r2) (L' := [(0, .ref a0), (1, .int p1), (2, va_rf r2)]) rfl rfl rfl ?_
  refine xle_next (i := .iload_n 1) (x' := (6, [(0, .ref a0), (1, .int p1), (2, va_rf r2)], [.int p1], h1)) rfl rfl rfl ?_
  refine xle_clI (i := .invokestatic 68) (fo := f_K_isAddress z [.int p1] h1) (t := []) rfl rfl rfl (fun x4 h3 => ?_)
  refine xle_clV (i := .invokestatic 76) (fo := f_K_needNumbers z [.int x4] h3) (t := []) rfl rfl rfl (fun h5 => ?_)
  refine xle_next (i := .aload_n 0) (x' := (13, [(0, .ref a0), (1, .int p1), (2, va_rf r2)], [.ref a0], h5)) rfl rfl rfl ?_
  refine xle_aldn (k := 2) (r := r2) rfl rfl rfl ?_
  refine xle_next (i := .iload_n 1) (x' := (15, [(0, .ref a0), (1, .int p1), (2, va_rf r2)], [.int p1, va_rf r2, .ref a0], h5)) rfl rfl rfl ?_
  refine xle_clR (i := .invokestatic 80) (fo := f_K_capabilityAt z [va_rf r2, .int p1] h5) (t := [.ref a0]) rfl rfl rfl (fun r7 h6 => ?_)
  refine xle_next (i := .iconst 0) (x' := (19, [(0, .ref a0), (1, .int p1), (2, va_rf r2)], [.int (Int32.ofInt 0), va_rf r7, .ref a0], h6)) rfl rfl rfl ?_
  refine xle_isO (i := .invokevirtual 121) (bq := a0) (ci := 0) (fo := (f_K_discard z [.ref a0, va_rf r7, .int (Int32.ofInt 0)] h6).bind (xback 19 [(0, .ref a0), (1, .int p1), (2, va_rf r2)] [])) rfl rfl rfl (fun hs => ?_)
  refine xle_clI (t := []) rfl rfl hs (fun x9 h8 => ?_)
  exact xle_end (i := .ireturn) rfl rfl rfl
noncomputable def B_K_youngestThatCameOf_10 (z : xzs) (a0 : Nat) (rv1 : Option Nat) (xv2 : Int32) (h : xH) : Option xR := xev (K_K_youngestThatCameOf z) (10, [(0, .ref a0), (1, va_rf rv1), (2, .int xv2)], [], h)
noncomputable def D_K_youngestThatCameOf_0 (z : xzs) (a0 : Nat) (p1 : Option Nat) (h : xH) : Option xR :=
  (rdR h a0 0 6).bind fun r1 =>
  r1.bind fun a2 =>
  (xisO h a2 7).bind fun _ => xclI (f_A_size z [.ref a2] h) fun x4 h3 =>
  B_K_youngestThatCameOf_10 z a0 p1 (x4 - (Int32.ofInt 1)) h3
theorem E_K_youngestThatCameOf (z : xzs) (a0 : Nat) (p1 : Option Nat) (h : xH) : xle (D_K_youngestThatCameOf_0 z a0 p1 h) (xfun (K_K_youngestThatCameOf z) 3 [.ref a0, va_rf p1] h) := by
  unfold D_K_youngestThatCameOf_0
  refine xle_entry (Nat.le_of_ble_eq_true rfl) (xal_c (xca_a _) (xal_c (xca_r _) (rfl))) ?_
  show xle _ (xev (K_K_youngestThatCameOf z) (0, [(0, .ref a0), (1, va_rf p1)], [], h))
  refine xle_next (i := .aload_n 0) (x' := (1, [(0, .ref a0), (1, va_rf p1)], [.ref a0], h)) rfl rfl rfl ?_
  refine xle_getR (f := (0, 6, .object "java/util/ArrayList", 0)) rfl rfl rfl (fun r1 => ?_)
  refine xle_some (fun r_ => (4, [(0, .ref a0), (1, va_rf p1)], [va_rf r_], h)) (fun a2 => ?_)
  refine xle_isO (i := .invokevirtual 253) (bq := a2) (ci := 7) (fo := (f_A_size z [.ref a2] h).bind (xback 4 [(0, .ref a0), (1, va_rf p1)] [])) rfl rfl rfl (fun hs => ?_)
  refine xle_clI (t := []) rfl rfl hs (fun x4 h3 => ?_)
  refine xle_next (i := .iconst 1) (x' := (8, [(0, .ref a0), (1, va_rf p1)], [.int (Int32.ofInt 1), .int x4], h3)) rfl rfl rfl ?_
  refine xle_next (i := .isub) (x' := (9, [(0, .ref a0), (1, va_rf p1)], [.int (x4 - (Int32.ofInt 1))], h3)) rfl rfl rfl ?_
  refine xle_next (i := .istore_n 2) (x' := (10, [(0, .ref a0), (1, va_rf p1), (2, .int (x4 - (Int32.ofInt 1)))], [], h3)) rfl rfl rfl ?_
  exact xle_jump rfl
noncomputable def D_K_youngestThatCameOf_10 (z : xzs) (a0 : Nat) (rv1 : Option Nat) (xv2 : Int32) (h : xH) : Option xR :=
  if xv2 < 0 then
    some (.inl (some (va_rf none)), h)
  else
    (rdR h a0 0 6).bind fun r5 =>
    r5.bind fun a6 =>
    (xisO h a6 7).bind fun _ => xclR (f_A_get z [.ref a6, .int xv2] h) fun r8 h7 =>
    (xcst h7 1 r8).bind fun _ =>
    r8.bind fun a9 =>
    (xisO h7 a9 1).bind fun _ => xclI (f_C_cameOf z [.ref a9, va_rf rv1] h7) fun x11 h10 =>
    if x11 = 0 then
      B_K_youngestThatCameOf_10 z a0 rv1 (xv2 + Int32.ofInt (-1)) h10
    else
      (rdR h10 a0 0 6).bind fun r12 =>
      r12.bind fun a13 =>
      (xisO h10 a13 7).bind fun _ => xclR (f_A_get z [.ref a13, .int xv2] h10) fun r15 h14 =>
      (xcst h14 1 r15).bind fun _ =>
      some (.inl (some (va_rf r15)), h14)
theorem E_K_youngestThatCameOf_10 (z : xzs) (a0 : Nat) (rv1 : Option Nat) (xv2 : Int32) (h : xH) : xle (D_K_youngestThatCameOf_10 z a0 rv1 xv2 h) (B_K_youngestThatCameOf_10 z a0 rv1 xv2 h) := by
  unfold D_K_youngestThatCameOf_10 B_K_youngestThatCameOf_10
  refine xle_next (i := .iload_n 2) (x' := (11, [(0, .ref a0), (1, va_rf rv1), (2, .int xv2)], [.int xv2], h)) rfl rfl rfl ?_
  refine xle_if (cd := .lt) (q := 50) rfl rfl rfl xc_lt (fun _ => ?_) (fun _ => ?_)
  · refine xle_next (i := .aconst_null) (x' := (51, [(0, .ref a0), (1, va_rf rv1), (2, .int xv2)], [.null], h)) rfl rfl rfl ?_
    exact xle_aret (r := none) rfl rfl rfl rfl
  · refine xle_next (i := .aload_n 0) (x' := (15, [(0, .ref a0), (1, va_rf rv1), (2, .int xv2)], [.ref a0], h)) rfl rfl rfl ?_
    refine xle_getR (f := (0, 6, .object "java/util/ArrayList", 0)) rfl rfl rfl (fun r5 => ?_)
    refine xle_next (i := .iload_n 2) (x' := (19, [(0, .ref a0), (1, va_rf rv1), (2, .int xv2)], [.int xv2, va_rf r5], h)) rfl rfl rfl ?_
    refine xle_some (fun r_ => (19, [(0, .ref a0), (1, va_rf rv1), (2, .int xv2)], [.int xv2, va_rf r_], h)) (fun a6 => ?_)
    refine xle_isO (i := .invokevirtual 307) (bq := a6) (ci := 7) (fo := (f_A_get z [.ref a6, .int xv2] h).bind (xback 19 [(0, .ref a0), (1, va_rf rv1), (2, .int xv2)] [])) rfl rfl rfl (fun hs => ?_)
    refine xle_clR (t := []) rfl rfl hs (fun r8 h7 => ?_)
    refine xle_cast (ci := 1) (y := r8) rfl rfl rfl ?_
    refine xle_aldn (k := 1) (r := rv1) rfl rfl rfl ?_
    refine xle_some (fun r_ => (26, [(0, .ref a0), (1, va_rf rv1), (2, .int xv2)], [va_rf rv1, va_rf r_], h7)) (fun a9 => ?_)
    refine xle_isO (i := .invokevirtual 311) (bq := a9) (ci := 1) (fo := (f_C_cameOf z [.ref a9, va_rf rv1] h7).bind (xback 26 [(0, .ref a0), (1, va_rf rv1), (2, .int xv2)] [])) rfl rfl rfl (fun hs => ?_)
    refine xle_clI (t := []) rfl rfl hs (fun x11 h10 => ?_)
    refine xle_if (cd := .eq) (q := 44) rfl rfl rfl xc_eq (fun _ => ?_) (fun _ => ?_)
    · refine xle_next (i := .iinc 2 (-1)) (x' := (47, [(0, .ref a0), (1, va_rf rv1), (2, .int (xv2 + Int32.ofInt (-1)))], [], h10)) rfl rfl rfl ?_
      refine xle_next (i := .goto (-37)) (x' := (10, [(0, .ref a0), (1, va_rf rv1), (2, .int (xv2 + Int32.ofInt (-1)))], [], h10)) rfl rfl rfl ?_
      exact xle_jump rfl
    · refine xle_next (i := .aload_n 0) (x' := (33, [(0, .ref a0), (1, va_rf rv1), (2, .int xv2)], [.ref a0], h10)) rfl rfl rfl ?_
      refine xle_getR (f := (0, 6, .object "java/util/ArrayList", 0)) rfl rfl rfl (fun r12 => ?_)
      refine xle_next (i := .iload_n 2) (x' := (37, [(0, .ref a0), (1, va_rf rv1), (2, .int xv2)], [.int xv2, va_rf r12], h10)) rfl rfl rfl ?_
      refine xle_some (fun r_ => (37, [(0, .ref a0), (1, va_rf rv1), (2, .int xv2)], [.int xv2, va_rf r_], h10)) (fun a13 => ?_)
      refine xle_isO (i := .invokevirtual 307) (bq := a13) (ci := 7) (fo := (f_A_get z [.ref a13, .int xv2] h10).bind (xback 37 [(0, .ref a0), (1, va_rf rv1), (2, .int xv2)] [])) rfl rfl rfl (fun hs => ?_)
      refine xle_clR (t := []) rfl rfl hs (fun r15 h14 => ?_)
      refine xle_cast (ci := 1) (y := r15) rfl rfl rfl ?_
      exact xle_aret (r := r15) rfl rfl rfl rfl
noncomputable def B_K_discardAllThatCameOf_10 (z : xzs) (a0 : Nat) (rv1 : Option Nat) (xv2 : Int32) (xv3 : Int32) (h : xH) : Option xR := xev (K_K_discardAllThatCameOf z) (10, [(0, .ref a0), (1, va_rf rv1), (2, .int xv2), (3, .int xv3)], [], h)
noncomputable def B_K_discardAllThatCameOf_52 (z : xzs) (xv2 : Int32) (h : xH) : Option xR := xev (K_K_discardAllThatCameOf z) (52, [(2, .int xv2)], [], h)
noncomputable def D_K_discardAllThatCameOf_0 (z : xzs) (a0 : Nat) (p1 : Option Nat) (h : xH) : Option xR :=
  (rdR h a0 0 6).bind fun r1 =>
  r1.bind fun a2 =>
  (xisO h a2 7).bind fun _ => xclI (f_A_size z [.ref a2] h) fun x4 h3 =>
  B_K_discardAllThatCameOf_10 z a0 p1 (Int32.ofInt 0) x4 h3
theorem E_K_discardAllThatCameOf (z : xzs) (a0 : Nat) (p1 : Option Nat) (h : xH) : xle (D_K_discardAllThatCameOf_0 z a0 p1 h) (xfun (K_K_discardAllThatCameOf z) 5 [.ref a0, va_rf p1] h) := by
  unfold D_K_discardAllThatCameOf_0
  refine xle_entry (Nat.le_of_ble_eq_true rfl) (xal_c (xca_a _) (xal_c (xca_r _) (rfl))) ?_
  show xle _ (xev (K_K_discardAllThatCameOf z) (0, [(0, .ref a0), (1, va_rf p1)], [], h))
  refine xle_next (i := .iconst 0) (x' := (1, [(0, .ref a0), (1, va_rf p1)], [.int (Int32.ofInt 0)], h)) rfl rfl rfl ?_
  refine xle_next (i := .istore_n 2) (x' := (2, [(0, .ref a0), (1, va_rf p1), (2, .int (Int32.ofInt 0))], [], h)) rfl rfl rfl ?_
  refine xle_next (i := .aload_n 0) (x' := (3, [(0, .ref a0), (1, va_rf p1), (2, .int (Int32.ofInt 0))], [.ref a0], h)) rfl rfl rfl ?_
  refine xle_getR (f := (0, 6, .object "java/util/ArrayList", 0)) rfl rfl rfl (fun r1 => ?_)
  refine xle_some (fun r_ => (6, [(0, .ref a0), (1, va_rf p1), (2, .int (Int32.ofInt 0))], [va_rf r_], h)) (fun a2 => ?_)
  refine xle_isO (i := .invokevirtual 253) (bq := a2) (ci := 7) (fo := (f_A_size z [.ref a2] h).bind (xback 6 [(0, .ref a0), (1, va_rf p1), (2, .int (Int32.ofInt 0))] [])) rfl rfl rfl (fun hs => ?_)
  refine xle_clI (t := []) rfl rfl hs (fun x4 h3 => ?_)
  refine xle_next (i := .istore_n 3) (x' := (10, [(0, .ref a0), (1, va_rf p1), (2, .int (Int32.ofInt 0)), (3, .int x4)], [], h3)) rfl rfl rfl ?_
  exact xle_jump rfl
noncomputable def D_K_discardAllThatCameOf_10 (z : xzs) (a0 : Nat) (rv1 : Option Nat) (xv2 : Int32) (xv3 : Int32) (h : xH) : Option xR :=
  if xv3 ≤ 0 then
    B_K_discardAllThatCameOf_52 z xv2 h
  else
    rv1.bind fun a5 =>
    (rdI h a5 1 6).bind fun x6 =>
    if ¬ x6 = 0 then
      B_K_discardAllThatCameOf_52 z xv2 h
    else
      (xisO h a0 0).bind fun _ => xclR (f_K_youngestThatCameOf z [.ref a0, .ref a5] h) fun r8 h7 =>
      xcase r8 (
        B_K_discardAllThatCameOf_52 z xv2 h7
      ) fun a9 =>
        (xisO h7 a0 0).bind fun _ => xclI (f_K_discard z [.ref a0, .ref a9, .int (Int32.ofInt 0)] h7) fun x11 h10 =>
        B_K_discardAllThatCameOf_10 z a0 (some a5) (xv2 + x11) (xv3 + Int32.ofInt (-1)) h10
theorem E_K_discardAllThatCameOf_10 (z : xzs) (a0 : Nat) (rv1 : Option Nat) (xv2 : Int32) (xv3 : Int32) (h : xH) : xle (D_K_discardAllThatCameOf_10 z a0 rv1 xv2 xv3 h) (B_K_discardAllThatCameOf_10 z a0 rv1 xv2 xv3 h) := by
  unfold D_K_discardAllThatCameOf_10 B_K_discardAllThatCameOf_10
  refine xle_next (i := .iload_n 3) (x' := (11, [(0, .ref a0), (1, va_rf rv1), (2, .int xv2), (3, .int xv3)], [.int xv3], h)) rfl rfl rfl ?_
  refine xle_if (cd := .le) (q := 52) rfl rfl rfl xc_le (fun _ => ?_) (fun _ => ?_)
  · exact xle_jump rfl
  · refine xle_aldn (k := 1) (r := rv1) rfl rfl rfl ?_
    refine xle_some (fun r_ => (15, [(0, .ref a0), (1, va_rf r_), (2, .int xv2), (3, .int xv3)], [va_rf r_], h)) (fun a5 => ?_)
    refine xle_getI (f := (1, 6, .boolean, 1)) rfl rfl rfl (fun x6 => ?_)
    refine xle_if (cd := .ne) (q := 52) rfl rfl rfl xc_ne (fun _ => ?_) (fun _ => ?_)
    · exact xle_jump rfl
    · refine xle_next (i := .aload_n 0) (x' := (22, [(0, .ref a0), (1, .ref a5), (2, .int xv2), (3, .int xv3)], [.ref a0], h)) rfl rfl rfl ?_
      refine xle_next (i := .aload_n 1) (x' := (23, [(0, .ref a0), (1, .ref a5), (2, .int xv2), (3, .int xv3)], [.ref a5, .ref a0], h)) rfl rfl rfl ?_
      refine xle_isO (i := .invokevirtual 303) (bq := a0) (ci := 0) (fo := (f_K_youngestThatCameOf z [.ref a0, .ref a5] h).bind (xback 23 [(0, .ref a0), (1, .ref a5), (2, .int xv2), (3, .int xv3)] [])) rfl rfl rfl (fun hs => ?_)
      refine xle_clR (t := []) rfl rfl hs (fun r8 h7 => ?_)
      refine xle_ast (k := 4) (r := r8) (L' := [(0, .ref a0), (1, .ref a5), (2, .int xv2), (3, .int xv3), (4, va_rf r8)]) rfl rfl rfl ?_
      refine xle_ald (k := 4) (r := r8) rfl rfl rfl ?_
      refine xle_case (fun r_ => (30, [(0, .ref a0), (1, .ref a5), (2, .int xv2), (3, .int xv3), (4, va_rf r_)], [va_rf r_], h7)) ?_ (fun a9 => ?_)
      · refine xle_next (i := .ifnonnull 6) (x' := (33, [(0, .ref a0), (1, .ref a5), (2, .int xv2), (3, .int xv3), (4, .null)], [], h7)) rfl rfl rfl ?_
        refine xle_next (i := .goto 19) (x' := (52, [(0, .ref a0), (1, .ref a5), (2, .int xv2), (3, .int xv3), (4, .null)], [], h7)) rfl rfl rfl ?_
        exact xle_jump rfl
      · refine xle_next (i := .ifnonnull 6) (x' := (36, [(0, .ref a0), (1, .ref a5), (2, .int xv2), (3, .int xv3), (4, .ref a9)], [], h7)) rfl rfl rfl ?_
        refine xle_next (i := .iload_n 2) (x' := (37, [(0, .ref a0), (1, .ref a5), (2, .int xv2), (3, .int xv3), (4, .ref a9)], [.int xv2], h7)) rfl rfl rfl ?_
        refine xle_next (i := .aload_n 0) (x' := (38, [(0, .ref a0), (1, .ref a5), (2, .int xv2), (3, .int xv3), (4, .ref a9)], [.ref a0, .int xv2], h7)) rfl rfl rfl ?_
        refine xle_next (i := .aload 4) (x' := (40, [(0, .ref a0), (1, .ref a5), (2, .int xv2), (3, .int xv3), (4, .ref a9)], [.ref a9, .ref a0, .int xv2], h7)) rfl rfl rfl ?_
        refine xle_next (i := .iconst 0) (x' := (41, [(0, .ref a0), (1, .ref a5), (2, .int xv2), (3, .int xv3), (4, .ref a9)], [.int (Int32.ofInt 0), .ref a9, .ref a0, .int xv2], h7)) rfl rfl rfl ?_
        refine xle_isO (i := .invokevirtual 121) (bq := a0) (ci := 0) (fo := (f_K_discard z [.ref a0, .ref a9, .int (Int32.ofInt 0)] h7).bind (xback 41 [(0, .ref a0), (1, .ref a5), (2, .int xv2), (3, .int xv3), (4, .ref a9)] [.int xv2])) rfl rfl rfl (fun hs => ?_)
        refine xle_clI (t := [.int xv2]) rfl rfl hs (fun x11 h10 => ?_)
        refine xle_next (i := .iadd) (x' := (45, [(0, .ref a0), (1, .ref a5), (2, .int xv2), (3, .int xv3), (4, .ref a9)], [.int (xv2 + x11)], h10)) rfl rfl rfl ?_
        refine xle_next (i := .istore_n 2) (x' := (46, [(0, .ref a0), (1, .ref a5), (2, .int (xv2 + x11)), (3, .int xv3), (4, .ref a9)], [], h10)) rfl rfl rfl ?_
        refine xle_next (i := .iinc 3 (-1)) (x' := (49, [(0, .ref a0), (1, .ref a5), (2, .int (xv2 + x11)), (3, .int (xv3 + Int32.ofInt (-1))), (4, .ref a9)], [], h10)) rfl rfl rfl ?_
        refine xle_next (i := .goto (-39)) (x' := (10, [(0, .ref a0), (1, .ref a5), (2, .int (xv2 + x11)), (3, .int (xv3 + Int32.ofInt (-1))), (4, .ref a9)], [], h10)) rfl rfl rfl ?_
        exact xle_jump rfl
noncomputable def D_K_discardAllThatCameOf_52 (z : xzs) (xv2 : Int32) (h : xH) : Option xR :=
  some (.inl (some (.int xv2)), h)
theorem E_K_discardAllThatCameOf_52 (z : xzs) (xv2 : Int32) (h : xH) : xle (D_K_discardAllThatCameOf_52 z xv2 h) (B_K_discardAllThatCameOf_52 z xv2 h) := by
  unfold D_K_discardAllThatCameOf_52 B_K_discardAllThatCameOf_52
  refine xle_next (i := .iload_n 2) (x' := (53, [(2, .int xv2)], [.int xv2], h)) rfl rfl rfl ?_
  exact xle_end (i := .ireturn) rfl rfl rfl
noncomputable def B_K_revoke_53 (z : xzs) (xv4 : Int32) (h : xH) : Option xR := xev (K_K_revoke z) (53, [(4, .int xv4)], [], h)
noncomputable def D_K_revoke_0 (z : xzs) (a0 : Nat) (p1 : Int32) (h : xH) : Option xR :=
  (xisO h a0 0).bind fun _ => xclR (f_K_actor z [.ref a0] h) fun r2 h1 =>
  xclI (f_K_isAddress z [.int p1] h1) fun x4 h3 =>
  xclV (f_K_needNumbers z [.int x4] h3) fun h5 =>
  xclR (f_K_capabilityAt z [va_rf r2, .int p1] h5) fun r7 h6 =>
  (xisO h6 a0 0).bind fun _ => xclI (f_K_discardAllThatCameOf z [.ref a0, va_rf r7] h6) fun x9 h8 =>
  r7.bind fun a10 =>
  (rdR h8 a10 1 0).bind fun r11 =>
  r11.bind fun a12 =>
  (rdI h8 a12 5 0).bind fun x13 =>
  if ¬ x13 = 0 then
    B_K_revoke_53 z x9 h8
  else
    (rdI h8 a12 5 8).bind fun x14 =>
    if ¬ x14 = 0 then
      B_K_revoke_53 z x9 h8
    else
      (xwr h8 a12 5 5 (.int (Int32.ofInt 0))).bind fun h15 =>
      B_K_revoke_53 z x9 h15
theorem E_K_revoke (z : xzs) (a0 : Nat) (p1 : Int32) (h : xH) : xle (D_K_revoke_0 z a0 p1 h) (xfun (K_K_revoke z) 6 [.ref a0, .int p1] h) := by
  unfold D_K_revoke_0
  refine xle_entry (Nat.le_of_ble_eq_true rfl) (xal_c (xca_a _) (xal_c (xca_i _) (rfl))) ?_
  show xle _ (xev (K_K_revoke z) (0, [(0, .ref a0), (1, .int p1)], [], h))
  refine xle_next (i := .aload_n 0) (x' := (1, [(0, .ref a0), (1, .int p1)], [.ref a0], h)) rfl rfl rfl ?_
  refine xle_isO (i := .invokevirtual 64) (bq := a0) (ci := 0) (fo := (f_K_actor z [.ref a0] h).bind (xback 1 [(0, .ref a0), (1, .int p1)] [])) rfl rfl rfl (fun hs => ?_)
  refine xle_clR (t := []) rfl rfl hs (fun r2 h1 => ?_)
  refine xle_astn (k := 2) (r := r2) (L' := [(0, .ref a0), (1, .int p1), (2, va_rf r2)]) rfl rfl rfl ?_
  refine xle_next (i := .iload_n 1) (x' := (6, [(0, .ref a0), (1, .int p1), (2, va_rf r2)], [.int p1], h1)) rfl rfl rfl ?_
  refine xle_clI (i := .invokestatic 68) (fo := f_K_isAddress z [.int p1] h1) (t := []) rfl rfl rfl (fun x4 h3 => ?_)
  refine xle_clV (i := .invokestatic 76) (fo := f_K_needNumbers z [.int x4] h3) (t := []) rfl rfl rfl (fun h5 => ?_)
  refine xle_aldn (k := 2) (r := r2) rfl rfl rfl ?_
  refine xle_next (i := .iload_n 1) (x' := (14, [(0, .ref a0), (1, .int p1), (2, va_rf r2)], [.int p1, va_rf r2], h5)) rfl rfl rfl ?_
  refine xle_clR (i := .invokestatic 80) (fo := f_K_capabilityAt z [va_rf r2, .int p1] h5) (t := []) rfl rfl rfl (fun r7 h6 => ?_)
  refine xle_astn (k := 3) (r := r7) (L' := [(0, .ref a0), (1, .int p1), (2, va_rf r2), (3, va_rf r7)]) rfl rfl rfl ?_
  refine xle_next (i := .aload_n 0) (x' := (19, [(0, .ref a0), (1, .int p1), (2, va_rf r2), (3, va_rf r7)], [.ref a0], h6)) rfl rfl rfl ?_
  refine xle_aldn (k := 3) (r := r7) rfl rfl rfl ?_
  refine xle_isO (i := .invokevirtual 125) (bq := a0) (ci := 0) (fo := (f_K_discardAllThatCameOf z [.ref a0, va_rf r7] h6).bind (xback 20 [(0, .ref a0), (1, .int p1), (2, va_rf r2), (3, va_rf r7)] [])) rfl rfl rfl (fun hs => ?_)
  refine xle_clI (t := []) rfl rfl hs (fun x9 h8 => ?_)
  refine xle_next (i := .istore 4) (x' := (25, [(0, .ref a0), (1, .int p1), (2, va_rf r2), (3, va_rf r7), (4, .int x9)], [], h8)) rfl rfl rfl ?_
  refine xle_aldn (k := 3) (r := r7) rfl rfl rfl ?_
  refine xle_some (fun r_ => (26, [(0, .ref a0), (1, .int p1), (2, va_rf r2), (3, va_rf r_), (4, .int x9)], [va_rf r_], h8)) (fun a10 => ?_)
  refine xle_getR (f := (1, 0, .object "CapKernel$Thing", 0)) rfl rfl rfl (fun r11 => ?_)
  refine xle_ast (k := 5) (r := r11) (L' := [(0, .ref a0), (1, .int p1), (2, va_rf r2), (3, .ref a10), (4, .int x9), (5, va_rf r11)]) rfl rfl rfl ?_
  refine xle_ald (k := 5) (r := r11) rfl rfl rfl ?_
  refine xle_some (fun r_ => (33, [(0, .ref a0), (1, .int p1), (2, va_rf r2), (3, .ref a10), (4, .int x9), (5, va_rf r_)], [va_rf r_], h8)) (fun a12 => ?_)
  refine xle_getI (f := (5, 0, .int, 0)) rfl rfl rfl (fun x13 => ?_)
  refine xle_if (cd := .ne) (q := 53) rfl rfl rfl xc_ne (fun _ => ?_) (fun _ => ?_)
  · exact xle_jump rfl
  · refine xle_next (i := .aload 5) (x' := (41, [(0, .ref a0), (1, .int p1), (2, va_rf r2), (3, .ref a10), (4, .int x9), (5, .ref a12)], [.ref a12], h8)) rfl rfl rfl ?_
    refine xle_getI (f := (5, 8, .int, 1)) rfl rfl rfl (fun x14 => ?_)
    refine xle_if (cd := .ne) (q := 53) rfl rfl rfl xc_ne (fun _ => ?_) (fun _ => ?_)
    · exact xle_jump rfl
    · refine xle_next (i := .aload 5) (x' := (49, [(0, .ref a0), (1, .int p1), (2, va_rf r2), (3, .ref a10), (4, .int x9), (5, .ref a12)], [.ref a12], h8)) rfl rfl rfl ?_
      refine xle_next (i := .iconst 0) (x' := (50, [(0, .ref a0), (1, .int p1), (2, va_rf r2), (3, .ref a10), (4, .int x9), (5, .ref a12)], [.int (Int32.ofInt 0), .ref a12], h8)) rfl rfl rfl ?_
      refine xle_put (v := .int (Int32.ofInt 0)) (f := (5, 5, .int, 1)) rfl rfl rfl ⟨by decide, rfl, rfl⟩ (fun h15 => ?_)
      exact xle_jump rfl
noncomputable def D_K_revoke_53 (z : xzs) (xv4 : Int32) (h : xH) : Option xR :=
  some (.inl (some (.int xv4)), h)
theorem E_K_revoke_53 (z : xzs) (xv4 : Int32) (h : xH) : xle (D_K_revoke_53 z xv4 h) (B_K_revoke_53 z xv4 h) := by
  unfold D_K_revoke_53 B_K_revoke_53
  refine xle_next (i := .iload 4) (x' := (55, [(4, .int xv4)], [.int xv4], h)) rfl rfl rfl ?_
  exact xle_end (i := .ireturn) rfl rfl rfl
noncomputable def D_K_needRights_0 (z : xzs) (p0 : Option Nat) (p1 : Int32) (h : xH) : Option xR :=
  p0.bind fun a1 =>
  (rdI h a1 1 1).bind fun x2 =>
  if (x2 &&& p1) = p1 then
    some (.inl none, h)
  else
    xlet (xn h) (xpush h 6 (.inr (10, [.null, .null, .int 0, .null, .null, .null]))) fun a3 h4 =>
    xclC (f_X_unsup z [.ref a3] h4) fun h5 =>
    some (.inr a3, h5)
theorem E_K_needRights (z : xzs) (p0 : Option Nat) (p1 : Int32) (h : xH) : xle (D_K_needRights_0 z p0 p1 h) (xfun (K_K_needRights z) 2 [va_rf p0, .int p1] h) := by
  unfold D_K_needRights_0
  refine xle_entry (Nat.le_of_ble_eq_true rfl) (xal_c (xca_r _) (xal_c (xca_i _) (rfl))) ?_
  show xle _ (xev (K_K_needRights z) (0, [(0, va_rf p0), (1, .int p1)], [], h))
  refine xle_aldn (k := 0) (r := p0) rfl rfl rfl ?_
  refine xle_some (fun r_ => (1, [(0, va_rf r_), (1, .int p1)], [va_rf r_], h)) (fun a1 => ?_)
  refine xle_getI (f := (1, 1, .int, 0)) rfl rfl rfl (fun x2 => ?_)
  refine xle_next (i := .iload_n 1) (x' := (5, [(0, .ref a1), (1, .int p1)], [.int p1, .int x2], h)) rfl rfl rfl ?_
  refine xle_next (i := .iand) (x' := (6, [(0, .ref a1), (1, .int p1)], [.int (x2 &&& p1)], h)) rfl rfl rfl ?_
  refine xle_next (i := .iload_n 1) (x' := (7, [(0, .ref a1), (1, .int p1)], [.int p1, .int (x2 &&& p1)], h)) rfl rfl rfl ?_
  refine xle_icmp (cd := .eq) (q := 18) rfl rfl rfl xc_eq (fun _ => ?_) (fun _ => ?_)
  · exact xle_end (i := .return_) rfl rfl rfl
  · refine xle_new (i := .new 276) (pc' := 13) (h' := xpush h 6 (.inr (10, [.null, .null, .int 0, .null, .null, .null]))) rfl rfl rfl (fun a3 h4 => ?_)
    refine xle_next (i := .dup) (x' := (14, [(0, .ref a1), (1, .int p1)], [.ref a3, .ref a3], h4)) rfl rfl rfl ?_
    refine xle_clC (i := .invokespecial 278) (fo := f_X_unsup z [.ref a3] h4) (t := [.ref a3]) rfl rfl rfl (fun h5 => ?_)
    exact xle_end (i := .athrow) rfl rfl rfl
noncomputable def B_K_makeOf_14 (z : xzs) (a0 : Nat) (rv1 : Option Nat) (xs0 : Int32) (xs1 : Int32) (rs2 : Option Nat) (rs3 : Option Nat) (h : xH) : Option xR := xev (K_K_makeOf z) (14, [(0, .ref a0), (1, va_rf rv1)], [.int xs0, .int xs1, va_rf rs2, va_rf rs3], h)
noncomputable def D_K_makeOf_0 (z : xzs) (a0 : Nat) (p1 : Option Nat) (p2 : Int32) (h : xH) : Option xR :=
  xlet (xn h) (xpush h 11 (.inr (5, [.int 0, .int 0, .int 0, .null, .int 0, .int 0, .int 0, .int 0, .int 0, .int 0, .null]))) fun a1 h2 =>
  if ¬ p2 = 0 then
    B_K_makeOf_14 z a0 p1 (Int32.ofInt 0) p2 (some a1) (some a1) h2
  else
    B_K_makeOf_14 z a0 p1 (Int32.ofInt 4) p2 (some a1) (some a1) h2
theorem E_K_makeOf (z : xzs) (a0 : Nat) (p1 : Option Nat) (p2 : Int32) (h : xH) : xle (D_K_makeOf_0 z a0 p1 p2 h) (xfun (K_K_makeOf z) 4 [.ref a0, va_rf p1, .int p2] h) := by
  unfold D_K_makeOf_0
  refine xle_entry (Nat.le_of_ble_eq_true rfl) (xal_c (xca_a _) (xal_c (xca_r _) (xal_c (xca_i _) (rfl)))) ?_
  show xle _ (xev (K_K_makeOf z) (0, [(0, .ref a0), (1, va_rf p1), (2, .int p2)], [], h))
  refine xle_new (i := .new 22) (pc' := 3) (h' := xpush h 11 (.inr (5, [.int 0, .int 0, .int 0, .null, .int 0, .int 0, .int 0, .int 0, .int 0, .int 0, .null]))) rfl rfl rfl (fun a1 h2 => ?_)
  refine xle_next (i := .dup) (x' := (4, [(0, .ref a0), (1, va_rf p1), (2, .int p2)], [.ref a1, .ref a1], h2)) rfl rfl rfl ?_
  refine xle_next (i := .iload_n 2) (x' := (5, [(0, .ref a0), (1, va_rf p1), (2, .int p2)], [.int p2, .ref a1, .ref a1], h2)) rfl rfl rfl ?_
  refine xle_next (i := .iload_n 2) (x' := (6, [(0, .ref a0), (1, va_rf p1), (2, .int p2)], [.int p2, .int p2, .ref a1, .ref a1], h2)) rfl rfl rfl ?_
  refine xle_if (cd := .ne) (q := 13) rfl rfl rfl xc_ne (fun _ => ?_) (fun _ => ?_)
  · refine xle_next (i := .iconst 0) (x' := (14, [(0, .ref a0), (1, va_rf p1), (2, .int p2)], [.int (Int32.ofInt 0), .int p2, .ref a1, .ref a1], h2)) rfl rfl rfl ?_
    exact xle_jump rfl
  · refine xle_next (i := .iconst 4) (x' := (10, [(0, .ref a0), (1, va_rf p1), (2, .int p2)], [.int (Int32.ofInt 4), .int p2, .ref a1, .ref a1], h2)) rfl rfl rfl ?_
    refine xle_next (i := .goto 4) (x' := (14, [(0, .ref a0), (1, va_rf p1), (2, .int p2)], [.int (Int32.ofInt 4), .int p2, .ref a1, .ref a1], h2)) rfl rfl rfl ?_
    exact xle_jump rfl
noncomputable def D_K_makeOf_14 (z : xzs) (a0 : Nat) (rv1 : Option Nat) (xs0 : Int32) (xs1 : Int32) (rs2 : Option Nat) (rs3 : Option Nat) (h : xH) : Option xR :=
  rs2.bind fun a3 =>
  xclC (f_T_new z [.ref a3, .int xs1, .int xs0, .int (Int32.ofInt 0)] h) fun h4 =>
  (rdI h4 a0 0 3).bind fun x5 =>
  (xwr h4 a0 0 3 (.int (x5 + (Int32.ofInt 1)))).bind fun h6 =>
  (rdI h6 a0 0 4).bind fun x7 =>
  (xwr h6 a0 0 4 (.int (x7 + (Int32.ofInt 1)))).bind fun h8 =>
  (rdI h8 a0 0 3).bind fun x9 =>
  rs3.bind fun a10 =>
  (xwr h8 a10 5 4 (.int x9)).bind fun h11 =>
  (xwr h11 a10 5 10 (va_rf rv1)).bind fun h12 =>
  rv1.bind fun a13 =>
  (rdI h12 a13 5 8).bind fun x14 =>
  (xwr h12 a13 5 8 (.int (x14 + (Int32.ofInt 1)))).bind fun h15 =>
  some (.inl (some (va_rf (some a10))), h15)
theorem E_K_makeOf_14 (z : xzs) (a0 : Nat) (rv1 : Option Nat) (xs0 : Int32) (xs1 : Int32) (rs2 : Option Nat) (rs3 : Option Nat) (h : xH) : xle (D_K_makeOf_14 z a0 rv1 xs0 xs1 rs2 rs3 h) (B_K_makeOf_14 z a0 rv1 xs0 xs1 rs2 rs3 h) := by
  unfold D_K_makeOf_14 B_K_makeOf_14
  refine xle_next (i := .iconst 0) (x' := (15, [(0, .ref a0), (1, va_rf rv1)], [.int (Int32.ofInt 0), .int xs0, .int xs1, va_rf rs2, va_rf rs3], h)) rfl rfl rfl ?_
  refine xle_some (fun r_ => (15, [(0, .ref a0), (1, va_rf rv1)], [.int (Int32.ofInt 0), .int xs0, .int xs1, va_rf r_, va_rf rs3], h)) (fun a3 => ?_)
  refine xle_clC (i := .invokespecial 24) (fo := f_T_new z [.ref a3, .int xs1, .int xs0, .int (Int32.ofInt 0)] h) (t := [va_rf rs3]) rfl rfl rfl (fun h4 => ?_)
  refine xle_astn (k := 3) (r := rs3) (L' := [(0, .ref a0), (1, va_rf rv1), (3, va_rf rs3)]) rfl rfl rfl ?_
  refine xle_next (i := .aload_n 0) (x' := (20, [(0, .ref a0), (1, va_rf rv1), (3, va_rf rs3)], [.ref a0], h4)) rfl rfl rfl ?_
  refine xle_next (i := .dup) (x' := (21, [(0, .ref a0), (1, va_rf rv1), (3, va_rf rs3)], [.ref a0, .ref a0], h4)) rfl rfl rfl ?_
  refine xle_getI (f := (0, 3, .int, 1)) rfl rfl rfl (fun x5 => ?_)
  refine xle_next (i := .iconst 1) (x' := (25, [(0, .ref a0), (1, va_rf rv1), (3, va_rf rs3)], [.int (Int32.ofInt 1), .int x5, .ref a0], h4)) rfl rfl rfl ?_
  refine xle_next (i := .iadd) (x' := (26, [(0, .ref a0), (1, va_rf rv1), (3, va_rf rs3)], [.int (x5 + (Int32.ofInt 1)), .ref a0], h4)) rfl rfl rfl ?_
  refine xle_put (v := .int (x5 + (Int32.ofInt 1))) (f := (0, 3, .int, 1)) rfl rfl rfl ⟨by decide, rfl, rfl⟩ (fun h6 => ?_)
  refine xle_next (i := .aload_n 0) (x' := (30, [(0, .ref a0), (1, va_rf rv1), (3, va_rf rs3)], [.ref a0], h6)) rfl rfl rfl ?_
  refine xle_next (i := .dup) (x' := (31, [(0, .ref a0), (1, va_rf rv1), (3, va_rf rs3)], [.ref a0, .ref a0], h6)) rfl rfl rfl ?_
  refine xle_getI (f := (0, 4, .int, 1)) rfl rfl rfl (fun x7 => ?_)
  refine xle_next (i := .iconst 1) (x' := (35, [(0, .ref a0), (1, va_rf rv1), (3, va_rf rs3)], [.int (Int32.ofInt 1), .int x7, .ref a0], h6)) rfl rfl rfl ?_
  refine xle_next (i := .iadd) (x' := (36, [(0, .ref a0), (1, va_rf rv1), (3, va_rf rs3)], [.int (x7 + (Int32.ofInt 1)), .ref a0], h6)) rfl rfl rfl ?_
  refine xle_put (v := .int (x7 + (Int32.ofInt 1))) (f := (0, 4, .int, 1)) rfl rfl rfl ⟨by decide, rfl, rfl⟩ (fun h8 => ?_)
  refine xle_aldn (k := 3) (r := rs3) rfl rfl rfl ?_
  refine xle_next (i := .aload_n 0) (x' := (41, [(0, .ref a0), (1, va_rf rv1), (3, va_rf rs3)], [.ref a0, va_rf rs3], h8)) rfl rfl rfl ?_
  refine xle_getI (f := (0, 3, .int, 1)) rfl rfl rfl (fun x9 => ?_)
  refine xle_some (fun r_ => (44, [(0, .ref a0), (1, va_rf rv1), (3, va_rf r_)], [.int x9, va_rf r_], h8)) (fun a10 => ?_)
  refine xle_put (v := .int x9) (f := (5, 4, .int, 1)) rfl rfl rfl ⟨by decide, rfl, rfl⟩ (fun h11 => ?_)
  refine xle_next (i := .aload_n 3) (x' := (48, [(0, .ref a0), (1, va_rf rv1), (3, .ref a10)], [.ref a10], h11)) rfl rfl rfl ?_
  refine xle_aldn (k := 1) (r := rv1) rfl rfl rfl ?_
  refine xle_put (v := va_rf rv1) (f := (5, 10, .object "CapKernel$Thing", 1)) rfl rfl rfl ⟨by decide, xfit_obj _ _⟩ (fun h12 => ?_)
  refine xle_aldn (k := 1) (r := rv1) rfl rfl rfl ?_
  refine xle_dupq (r := rv1) rfl rfl ?_
  refine xle_some (fun r_ => (54, [(0, .ref a0), (1, va_rf r_), (3, .ref a10)], [va_rf r_, va_rf r_], h12)) (fun a13 => ?_)
  refine xle_getI (f := (5, 8, .int, 1)) rfl rfl rfl (fun x14 => ?_)
  refine xle_next (i := .iconst 1) (x' := (58, [(0, .ref a0), (1, .ref a13), (3, .ref a10)], [.int (Int32.ofInt 1), .int x14, .ref a13], h12)) rfl rfl rfl ?_
  refine xle_next (i := .iadd) (x' := (59, [(0, .ref a0), (1, .ref a13), (3, .ref a10)], [.int (x14 + (Int32.ofInt 1)), .ref a13], h12)) rfl rfl rfl ?_
  refine xle_put (v := .int (x14 + (Int32.ofInt 1))) (f := (5, 8, .int, 1)) rfl rfl rfl ⟨by decide, rfl, rfl⟩ (fun h15 => ?_)
  refine xle_next (i := .aload_n 3) (x' := (63, [(0, .ref a0), (1, .ref a13), (3, .ref a10)], [.ref a10], h15)) rfl rfl rfl ?_
  exact xle_aret (r := (some a10)) rfl rfl rfl rfl
noncomputable def B_K_retype_33 (z : xzs) (a0 : Nat) (xv1 : Int32) (xv2 : Int32) (xv3 : Int32) (rv4 : Option Nat) (h : xH) : Option xR := xev (K_K_retype z) (33, [(0, .ref a0), (1, .int xv1), (2, .int xv2), (3, .int xv3), (4, va_rf rv4)], [], h)
noncomputable def B_K_retype_34 (z : xzs) (a0 : Nat) (xv1 : Int32) (xv2 : Int32) (xv3 : Int32) (rv4 : Option Nat) (xs0 : Int32) (h : xH) : Option xR := xev (K_K_retype z) (34, [(0, .ref a0), (1, .int xv1), (2, .int xv2), (3, .int xv3), (4, va_rf rv4)], [.int xs0], h)
noncomputable def B_K_retype_73 (z : xzs) (a0 : Nat) (xv2 : Int32) (xv3 : Int32) (rv5 : Option Nat) (rv6 : Option Nat) (rv7 : Option Nat) (xs0 : Int32) (h : xH) : Option xR := xev (K_K_retype z) (73, [(0, .ref a0), (2, .int xv2), (3, .int xv3), (5, va_rf rv5), (6, va_rf rv6), (7, va_rf rv7)], [.int xs0], h)
noncomputable def B_K_retype_91 (z : xzs) (a0 : Nat) (xv2 : Int32) (xv3 : Int32) (rv5 : Option Nat) (rv6 : Option Nat) (rv7 : Option Nat) (h : xH) : Option xR := xev (K_K_retype z) (91, [(0, .ref a0), (2, .int xv2), (3, .int xv3), (5, va_rf rv5), (6, va_rf rv6), (7, va_rf rv7)], [], h)
noncomputable def B_K_retype_96 (z : xzs) (a0 : Nat) (xv2 : Int32) (xv3 : Int32) (rv5 : Option Nat) (rv6 : Option Nat) (rv7 : Option Nat) (xs0 : Int32) (h : xH) : Option xR := xev (K_K_retype z) (96, [(0, .ref a0), (2, .int xv2), (3, .int xv3), (5, va_rf rv5), (6, va_rf rv6), (7, va_rf rv7)], [.int xs0], h)
noncomputable def B_K_retype_131 (z : xzs) (a0 : Nat) (xv2 : Int32) (xv3 : Int32) (rv5 : Option Nat) (rv6 : Option Nat) (rv7 : Option Nat) (xv8 : Int32) (xs0 : Int32) (h : xH) : Option xR := xev (K_K_retype z) (131, [(0, .ref a0), (2, .int xv2), (3, .int xv3), (5, va_rf rv5), (6, va_rf rv6), (7, va_rf rv7), (8, .int xv8)], [.int xs0], h)
noncomputable def B_K_retype_148 (z : xzs) (a0 : Nat) (xv2 : Int32) (xv3 : Int32) (rv5 : Option Nat) (rv6 : Option Nat) (rv7 : Option Nat) (xv8 : Int32) (xs0 : Int32) (h : xH) : Option xR := xev (K_K_retype z) (148, [(0, .ref a0), (2, .int xv2), (3, .int xv3), (5, va_rf rv5), (6, va_rf rv6), (7, va_rf rv7), (8, .int xv8)], [.int xs0], h)
noncomputable def D_K_retype_0 (z : xzs) (a0 : Nat) (p1 : Int32) (p2 : Int32) (p3 : Int32) (h : xH) : Option xR :=
  (xisO h a0 0).bind fun _ => xclR (f_K_actor z [.ref a0] h) fun r2 h1 =>
  xclI (f_K_isAddress z [.int p1] h1) fun x4 h3 =>
  if x4 = 0 then
    B_K_retype_33 z a0 p1 p2 p3 r2 h3
  else
    xclI (f_K_isWithin z [.int p2, .int (Int32.ofInt 0), .int (Int32.ofInt 3)] h3) fun x6 h5 =>
    if x6 = 0 then
      B_K_retype_33 z a0 p1 p2 p3 r2 h5
    else
      xclI (f_K_isAddress z [.int p3] h5) fun x8 h7 =>
      if x8 = 0 then
        B_K_retype_33 z a0 p1 p2 p3 r2 h7
      else
        B_K_retype_34 z a0 p1 p2 p3 r2 (Int32.ofInt 1) h7
theorem E_K_retype (z : xzs) (a0 : Nat) (p1 : Int32) (p2 : Int32) (p3 : Int32) (h : xH) : xle (D_K_retype_0 z a0 p1 p2 p3 h) (xfun (K_K_retype z) 10 [.ref a0, .int p1, .int p2, .int p3] h) := by
  unfold D_K_retype_0
  refine xle_entry (Nat.le_of_ble_eq_true rfl) (xal_c (xca_a _) (xal_c (xca_i _) (xal_c (xca_i _) (xal_c (xca_i _) (rfl))))) ?_
  show xle _ (xev (K_K_retype z) (0, [(0, .ref a0), (1, .int p1), (2, .int p2), (3, .int p3)], [], h))
  refine xle_next (i := .aload_n 0) (x' := (1, [(0, .ref a0), (1, .int p1), (2, .int p2), (3, .int p3)], [.ref a0], h)) rfl rfl rfl ?_
  refine xle_isO (i := .invokevirtual 64) (bq := a0) (ci := 0) (fo := (f_K_actor z [.ref a0] h).bind (xback 1 [(0, .ref a0), (1, .int p1), (2, .int p2), (3, .int p3)] [])) rfl rfl rfl (fun hs => ?_)
  refine xle_clR (t := []) rfl rfl hs (fun r2 h1 => ?_)
  refine xle_ast (k := 4) (r := r2) (L' := [(0, .ref a0), (1, .int p1), (2, .int p2), (3, .int p3), (4, va_rf r2)]) rfl rfl rfl ?_
  refine xle_next (i := .iload_n 1) (x' := (7, [(0, .ref a0), (1, .int p1), (2, .int p2), (3, .int p3), (4, va_rf r2)], [.int p1], h1)) rfl rfl rfl ?_
  refine xle_clI (i := .invokestatic 68) (fo := f_K_isAddress z [.int p1] h1) (t := []) rfl rfl rfl (fun x4 h3 => ?_)
  refine xle_if (cd := .eq) (q := 33) rfl rfl rfl xc_eq (fun _ => ?_) (fun _ => ?_)
  · exact xle_jump rfl
  · refine xle_next (i := .iload_n 2) (x' := (14, [(0, .ref a0), (1, .int p1), (2, .int p2), (3, .int p3), (4, va_rf r2)], [.int p2], h3)) rfl rfl rfl ?_
    refine xle_next (i := .iconst 0) (x' := (15, [(0, .ref a0), (1, .int p1), (2, .int p2), (3, .int p3), (4, va_rf r2)], [.int (Int32.ofInt 0), .int p2], h3)) rfl rfl rfl ?_
    refine xle_next (i := .iconst 3) (x' := (16, [(0, .ref a0), (1, .int p1), (2, .int p2), (3, .int p3), (4, va_rf r2)], [.int (Int32.ofInt 3), .int (Int32.ofInt 0), .int p2], h3)) rfl rfl rfl ?_
    refine xle_clI (i := .invokestatic 72) (fo := f_K_isWithin z [.int p2, .int (Int32.ofInt 0), .int (Int32.ofInt 3)] h3) (t := []) rfl rfl rfl (fun x6 h5 => ?_)
    refine xle_if (cd := .eq) (q := 33) rfl rfl rfl xc_eq (fun _ => ?_) (fun _ => ?_)
    · exact xle_jump rfl
    · refine xle_next (i := .iload_n 3) (x' := (23, [(0, .ref a0), (1, .int p1), (2, .int p2), (3, .int p3), (4, va_rf r2)], [.int p3], h5)) rfl rfl rfl ?_
      refine xle_clI (i := .invokestatic 68) (fo := f_K_isAddress z [.int p3] h5) (t := []) rfl rfl rfl (fun x8 h7 => ?_)
      refine xle_if (cd := .eq) (q := 33) rfl rfl rfl xc_eq (fun _ => ?_) (fun _ => ?_)
      · exact xle_jump rfl
      · refine xle_next (i := .iconst 1) (x' := (30, [(0, .ref a0), (1, .int p1), (2, .int p2), (3, .int p3), (4, va_rf r2)], [.int (Int32.ofInt 1)], h7)) rfl rfl rfl ?_
        refine xle_next (i := .goto 4) (x' := (34, [(0, .ref a0), (1, .int p1), (2, .int p2), (3, .int p3), (4, va_rf r2)], [.int (Int32.ofInt 1)], h7)) rfl rfl rfl ?_
        exact xle_jump rfl
noncomputable def D_K_retype_33 (z : xzs) (a0 : Nat) (xv1 : Int32) (xv2 : Int32) (xv3 : Int32) (rv4 : Option Nat) (h : xH) : Option xR :=
  B_K_retype_34 z a0 xv1 xv2 xv3 rv4 (Int32.ofInt 0) h
theorem E_K_retype_33 (z : xzs) (a0 : Nat) (xv1 : Int32) (xv2 : Int32) (xv3 : Int32) (rv4 : Option Nat) (h : xH) : xle (D_K_retype_33 z a0 xv1 xv2 xv3 rv4 h) (B_K_retype_33 z a0 xv1 xv2 xv3 rv4 h) := by
  unfold D_K_retype_33 B_K_retype_33
  refine xle_next (i := .iconst 0) (x' := (34, [(0, .ref a0), (1, .int xv1), (2, .int xv2), (3, .int xv3), (4, va_rf rv4)], [.int (Int32.ofInt 0)], h)) rfl rfl rfl ?_
  exact xle_jump rfl
noncomputable def D_K_retype_34 (z : xzs) (a0 : Nat) (xv1 : Int32) (xv2 : Int32) (xv3 : Int32) (rv4 : Option Nat) (xs0 : Int32) (h : xH) : Option xR :=
  xclV (f_K_needNumbers z [.int xs0] h) fun h9 =>
  xclR (f_K_capabilityAt z [va_rf rv4, .int xv1] h9) fun r11 h10 =>
  xclR (f_K_tableAt z [va_rf rv4, .int xv3] h10) fun r13 h12 =>
  r11.bind fun a14 =>
  (rdR h12 a14 1 0).bind fun r15 =>
  r15.bind fun a16 =>
  (rdI h12 a16 5 0).bind fun x17 =>
  if ¬ x17 = 0 then
    B_K_retype_73 z a0 xv2 xv3 (some a14) r13 (some a16) (Int32.ofInt 0) h12
  else
    B_K_retype_73 z a0 xv2 xv3 (some a14) r13 (some a16) (Int32.ofInt 1) h12
theorem E_K_retype_34 (z : xzs) (a0 : Nat) (xv1 : Int32) (xv2 : Int32) (xv3 : Int32) (rv4 : Option Nat) (xs0 : Int32) (h : xH) : xle (D_K_retype_34 z a0 xv1 xv2 xv3 rv4 xs0 h) (B_K_retype_34 z a0 xv1 xv2 xv3 rv4 xs0 h) := by
  unfold D_K_retype_34 B_K_retype_34
  refine xle_clV (i := .invokestatic 76) (fo := f_K_needNumbers z [.int xs0] h) (t := []) rfl rfl rfl (fun h9 => ?_)
  refine xle_ald (k := 4) (r := rv4) rfl rfl rfl ?_
  refine xle_next (i := .iload_n 1) (x' := (40, [(0, .ref a0), (1, .int xv1), (2, .int xv2), (3, .int xv3), (4, va_rf rv4)], [.int xv1, va_rf rv4], h9)) rfl rfl rfl ?_
  refine xle_clR (i := .invokestatic 80) (fo := f_K_capabilityAt z [va_rf rv4, .int xv1] h9) (t := []) rfl rfl rfl (fun r11 h10 => ?_)
  refine xle_ast (k := 5) (r := r11) (L' := [(0, .ref a0), (1, .int xv1), (2, .int xv2), (3, .int xv3), (4, va_rf rv4), (5, va_rf r11)]) rfl rfl rfl ?_
  refine xle_ald (k := 4) (r := rv4) rfl rfl rfl ?_
  refine xle_next (i := .iload_n 3) (x' := (48, [(0, .ref a0), (1, .int xv1), (2, .int xv2), (3, .int xv3), (4, va_rf rv4), (5, va_rf r11)], [.int xv3, va_rf rv4], h10)) rfl rfl rfl ?_
  refine xle_clR (i := .invokestatic 84) (fo := f_K_tableAt z [va_rf rv4, .int xv3] h10) (t := []) rfl rfl rfl (fun r13 h12 => ?_)
  refine xle_ast (k := 6) (r := r13) (L' := [(0, .ref a0), (1, .int xv1), (2, .int xv2), (3, .int xv3), (4, va_rf rv4), (5, va_rf r11), (6, va_rf r13)]) rfl rfl rfl ?_
  refine xle_ald (k := 5) (r := r11) rfl rfl rfl ?_
  refine xle_some (fun r_ => (55, [(0, .ref a0), (1, .int xv1), (2, .int xv2), (3, .int xv3), (4, va_rf rv4), (5, va_rf r_), (6, va_rf r13)], [va_rf r_], h12)) (fun a14 => ?_)
  refine xle_getR (f := (1, 0, .object "CapKernel$Thing", 0)) rfl rfl rfl (fun r15 => ?_)
  refine xle_ast (k := 7) (r := r15) (L' := [(0, .ref a0), (1, .int xv1), (2, .int xv2), (3, .int xv3), (4, va_rf rv4), (5, .ref a14), (6, va_rf r13), (7, va_rf r15)]) rfl rfl rfl ?_
  refine xle_ald (k := 7) (r := r15) rfl rfl rfl ?_
  refine xle_some (fun r_ => (62, [(0, .ref a0), (1, .int xv1), (2, .int xv2), (3, .int xv3), (4, va_rf rv4), (5, .ref a14), (6, va_rf r13), (7, va_rf r_)], [va_rf r_], h12)) (fun a16 => ?_)
  refine xle_getI (f := (5, 0, .int, 0)) rfl rfl rfl (fun x17 => ?_)
  refine xle_if (cd := .ne) (q := 72) rfl rfl rfl xc_ne (fun _ => ?_) (fun _ => ?_)
  · refine xle_next (i := .iconst 0) (x' := (73, [(0, .ref a0), (1, .int xv1), (2, .int xv2), (3, .int xv3), (4, va_rf rv4), (5, .ref a14), (6, va_rf r13), (7, .ref a16)], [.int (Int32.ofInt 0)], h12)) rfl rfl rfl ?_
    exact xle_jump rfl
  · refine xle_next (i := .iconst 1) (x' := (69, [(0, .ref a0), (1, .int xv1), (2, .int xv2), (3, .int xv3), (4, va_rf rv4), (5, .ref a14), (6, va_rf r13), (7, .ref a16)], [.int (Int32.ofInt 1)], h12)) rfl rfl rfl ?_
    refine xle_next (i := .goto 4) (x' := (73, [(0, .ref a0), (1, .int xv1), (2, .int xv2), (3, .int xv3), (4, va_rf rv4), (5, .ref a14), (6, va_rf r13), (7, .ref a16)], [.int (Int32.ofInt 1)], h12)) rfl rfl rfl ?_
    exact xle_jump rfl
noncomputable def D_K_retype_73 (z : xzs) (a0 : Nat) (xv2 : Int32) (xv3 : Int32) (rv5 : Option Nat) (rv6 : Option Nat) (rv7 : Option Nat) (xs0 : Int32) (h : xH) : Option xR :=
  xclV (f_K_needKind z [.int xs0] h) fun h18 =>
  xclV (f_K_needRights z [va_rf rv5, .int (Int32.ofInt 2)] h18) fun h19 =>
  if xv2 = 0 then
    B_K_retype_91 z a0 xv2 xv3 rv5 rv6 rv7 h19
  else
    if ¬ xv2 = (Int32.ofInt 3) then
      B_K_retype_96 z a0 xv2 xv3 rv5 rv6 rv7 (Int32.ofInt 1) h19
    else
      B_K_retype_91 z a0 xv2 xv3 rv5 rv6 rv7 h19
theorem E_K_retype_73 (z : xzs) (a0 : Nat) (xv2 : Int32) (xv3 : Int32) (rv5 : Option Nat) (rv6 : Option Nat) (rv7 : Option Nat) (xs0 : Int32) (h : xH) : xle (D_K_retype_73 z a0 xv2 xv3 rv5 rv6 rv7 xs0 h) (B_K_retype_73 z a0 xv2 xv3 rv5 rv6 rv7 xs0 h) := by
  unfold D_K_retype_73 B_K_retype_73
  refine xle_clV (i := .invokestatic 111) (fo := f_K_needKind z [.int xs0] h) (t := []) rfl rfl rfl (fun h18 => ?_)
  refine xle_ald (k := 5) (r := rv5) rfl rfl rfl ?_
  refine xle_next (i := .iconst 2) (x' := (79, [(0, .ref a0), (2, .int xv2), (3, .int xv3), (5, va_rf rv5), (6, va_rf rv6), (7, va_rf rv7)], [.int (Int32.ofInt 2), va_rf rv5], h18)) rfl rfl rfl ?_
  refine xle_clV (i := .invokestatic 135) (fo := f_K_needRights z [va_rf rv5, .int (Int32.ofInt 2)] h18) (t := []) rfl rfl rfl (fun h19 => ?_)
  refine xle_next (i := .iload_n 2) (x' := (83, [(0, .ref a0), (2, .int xv2), (3, .int xv3), (5, va_rf rv5), (6, va_rf rv6), (7, va_rf rv7)], [.int xv2], h19)) rfl rfl rfl ?_
  refine xle_if (cd := .eq) (q := 91) rfl rfl rfl xc_eq (fun _ => ?_) (fun _ => ?_)
  · exact xle_jump rfl
  · refine xle_next (i := .iload_n 2) (x' := (87, [(0, .ref a0), (2, .int xv2), (3, .int xv3), (5, va_rf rv5), (6, va_rf rv6), (7, va_rf rv7)], [.int xv2], h19)) rfl rfl rfl ?_
    refine xle_next (i := .iconst 3) (x' := (88, [(0, .ref a0), (2, .int xv2), (3, .int xv3), (5, va_rf rv5), (6, va_rf rv6), (7, va_rf rv7)], [.int (Int32.ofInt 3), .int xv2], h19)) rfl rfl rfl ?_
    refine xle_icmp (cd := .ne) (q := 95) rfl rfl rfl xc_ne (fun _ => ?_) (fun _ => ?_)
    · refine xle_next (i := .iconst 1) (x' := (96, [(0, .ref a0), (2, .int xv2), (3, .int xv3), (5, va_rf rv5), (6, va_rf rv6), (7, va_rf rv7)], [.int (Int32.ofInt 1)], h19)) rfl rfl rfl ?_
      exact xle_jump rfl
    · exact xle_jump rfl
noncomputable def D_K_retype_91 (z : xzs) (a0 : Nat) (xv2 : Int32) (xv3 : Int32) (rv5 : Option Nat) (rv6 : Option Nat) (rv7 : Option Nat) (h : xH) : Option xR :=
  B_K_retype_96 z a0 xv2 xv3 rv5 rv6 rv7 (Int32.ofInt 4) h
theorem E_K_retype_91 (z : xzs) (a0 : Nat) (xv2 : Int32) (xv3 : Int32) (rv5 : Option Nat) (rv6 : Option Nat) (rv7 : Option Nat) (h : xH) : xle (D_K_retype_91 z a0 xv2 xv3 rv5 rv6 rv7 h) (B_K_retype_91 z a0 xv2 xv3 rv5 rv6 rv7 h) := by
  unfold D_K_retype_91 B_K_retype_91
  refine xle_next (i := .iconst 4) (x' := (92, [(0, .ref a0), (2, .int xv2), (3, .int xv3), (5, va_rf rv5), (6, va_rf rv6), (7, va_rf rv7)], [.int (Int32.ofInt 4)], h)) rfl rfl rfl ?_
  refine xle_next (i := .goto 4) (x' := (96, [(0, .ref a0), (2, .int xv2), (3, .int xv3), (5, va_rf rv5), (6, va_rf rv6), (7, va_rf rv7)], [.int (Int32.ofInt 4)], h)) rfl rfl rfl ?_
  exact xle_jump rfl
noncomputable def D_K_retype_96 (z : xzs) (a0 : Nat) (xv2 : Int32) (xv3 : Int32) (rv5 : Option Nat) (rv6 : Option Nat) (rv7 : Option Nat) (xs0 : Int32) (h : xH) : Option xR :=
  xclI (f_K_slotOf z [.int xv3] h) fun x21 h20 =>
  rv6.bind fun a22 =>
  (xisO h20 a22 5).bind fun _ => xclI (f_T_isFree z [.ref a22, .int x21] h20) fun x24 h23 =>
  xclV (f_K_needState z [.int x24] h23) fun h25 =>
  rv7.bind fun a26 =>
  (rdI h25 a26 5 1).bind fun x27 =>
  (rdI h25 a26 5 5).bind fun x28 =>
  if (x27 - x28) < xs0 then
    B_K_retype_131 z a0 xv2 xv3 rv5 (some a22) (some a26) xs0 (Int32.ofInt 0) h25
  else
    B_K_retype_131 z a0 xv2 xv3 rv5 (some a22) (some a26) xs0 (Int32.ofInt 1) h25
theorem E_K_retype_96 (z : xzs) (a0 : Nat) (xv2 : Int32) (xv3 : Int32) (rv5 : Option Nat) (rv6 : Option Nat) (rv7 : Option Nat) (xs0 : Int32) (h : xH) : xle (D_K_retype_96 z a0 xv2 xv3 rv5 rv6 rv7 xs0 h) (B_K_retype_96 z a0 xv2 xv3 rv5 rv6 rv7 xs0 h) := by
  unfold D_K_retype_96 B_K_retype_96
  refine xle_next (i := .istore 8) (x' := (98, [(0, .ref a0), (2, .int xv2), (3, .int xv3), (5, va_rf rv5), (6, va_rf rv6), (7, va_rf rv7), (8, .int xs0)], [], h)) rfl rfl rfl ?_
  refine xle_ald (k := 6) (r := rv6) rfl rfl rfl ?_
  refine xle_next (i := .iload_n 3) (x' := (101, [(0, .ref a0), (2, .int xv2), (3, .int xv3), (5, va_rf rv5), (6, va_rf rv6), (7, va_rf rv7), (8, .int xs0)], [.int xv3, va_rf rv6], h)) rfl rfl rfl ?_
  refine xle_clI (i := .invokestatic 88) (fo := f_K_slotOf z [.int xv3] h) (t := [va_rf rv6]) rfl rfl rfl (fun x21 h20 => ?_)
  refine xle_some (fun r_ => (104, [(0, .ref a0), (2, .int xv2), (3, .int xv3), (5, va_rf rv5), (6, va_rf r_), (7, va_rf rv7), (8, .int xs0)], [.int x21, va_rf r_], h20)) (fun a22 => ?_)
  refine xle_isO (i := .invokevirtual 92) (bq := a22) (ci := 5) (fo := (f_T_isFree z [.ref a22, .int x21] h20).bind (xback 104 [(0, .ref a0), (2, .int xv2), (3, .int xv3), (5, va_rf rv5), (6, .ref a22), (7, va_rf rv7), (8, .int xs0)] [])) rfl rfl rfl (fun hs => ?_)
  refine xle_clI (t := []) rfl rfl hs (fun x24 h23 => ?_)
  refine xle_clV (i := .invokestatic 95) (fo := f_K_needState z [.int x24] h23) (t := []) rfl rfl rfl (fun h25 => ?_)
  refine xle_ald (k := 7) (r := rv7) rfl rfl rfl ?_
  refine xle_some (fun r_ => (112, [(0, .ref a0), (2, .int xv2), (3, .int xv3), (5, va_rf rv5), (6, .ref a22), (7, va_rf r_), (8, .int xs0)], [va_rf r_], h25)) (fun a26 => ?_)
  refine xle_getI (f := (5, 1, .int, 0)) rfl rfl rfl (fun x27 => ?_)
  refine xle_next (i := .aload 7) (x' := (117, [(0, .ref a0), (2, .int xv2), (3, .int xv3), (5, va_rf rv5), (6, .ref a22), (7, .ref a26), (8, .int xs0)], [.ref a26, .int x27], h25)) rfl rfl rfl ?_
  refine xle_getI (f := (5, 5, .int, 1)) rfl rfl rfl (fun x28 => ?_)
  refine xle_next (i := .isub) (x' := (121, [(0, .ref a0), (2, .int xv2), (3, .int xv3), (5, va_rf rv5), (6, .ref a22), (7, .ref a26), (8, .int xs0)], [.int (x27 - x28)], h25)) rfl rfl rfl ?_
  refine xle_next (i := .iload 8) (x' := (123, [(0, .ref a0), (2, .int xv2), (3, .int xv3), (5, va_rf rv5), (6, .ref a22), (7, .ref a26), (8, .int xs0)], [.int xs0, .int (x27 - x28)], h25)) rfl rfl rfl ?_
  refine xle_icmp (cd := .lt) (q := 130) rfl rfl rfl xc_lt (fun _ => ?_) (fun _ => ?_)
  · refine xle_next (i := .iconst 0) (x' := (131, [(0, .ref a0), (2, .int xv2), (3, .int xv3), (5, va_rf rv5), (6, .ref a22), (7, .ref a26), (8, .int xs0)], [.int (Int32.ofInt 0)], h25)) rfl rfl rfl ?_
    exact xle_jump rfl
  · refine xle_next (i := .iconst 1) (x' := (127, [(0, .ref a0), (2, .int xv2), (3, .int xv3), (5, va_rf rv5), (6, .ref a22), (7, .ref a26), (8, .int xs0)], [.int (Int32.ofInt 1)], h25)) rfl rfl rfl ?_
    refine xle_next (i := .goto 4) (x' := (131, [(0, .ref a0), (2, .int xv2), (3, .int xv3), (5, va_rf rv5), (6, .ref a22), (7, .ref a26), (8, .int xs0)], [.int (Int32.ofInt 1)], h25)) rfl rfl rfl ?_
    exact xle_jump rfl
noncomputable def D_K_retype_131 (z : xzs) (a0 : Nat) (xv2 : Int32) (xv3 : Int32) (rv5 : Option Nat) (rv6 : Option Nat) (rv7 : Option Nat) (xv8 : Int32) (xs0 : Int32) (h : xH) : Option xR :=
  xclV (f_K_needState z [.int xs0] h) fun h29 =>
  (rdI h29 a0 0 3).bind fun x30 =>
  if ((Int8.ofInt 40).toInt32) ≤ x30 then
    B_K_retype_148 z a0 xv2 xv3 rv5 rv6 rv7 xv8 (Int32.ofInt 0) h29
  else
    B_K_retype_148 z a0 xv2 xv3 rv5 rv6 rv7 xv8 (Int32.ofInt 1) h29
theorem E_K_retype_131 (z : xzs) (a0 : Nat) (xv2 : Int32) (xv3 : Int32) (rv5 : Option Nat) (rv6 : Option Nat) (rv7 : Option Nat) (xv8 : Int32) (xs0 : Int32) (h : xH) : xle (D_K_retype_131 z a0 xv2 xv3 rv5 rv6 rv7 xv8 xs0 h) (B_K_retype_131 z a0 xv2 xv3 rv5 rv6 rv7 xv8 xs0 h) := by
  unfold D_K_retype_131 B_K_retype_131
  refine xle_clV (i := .invokestatic 95) (fo := f_K_needState z [.int xs0] h) (t := []) rfl rfl rfl (fun h29 => ?_)
  refine xle_next (i := .aload_n 0) (x' := (135, [(0, .ref a0), (2, .int xv2), (3, .int xv3), (5, va_rf rv5), (6, va_rf rv6), (7, va_rf rv7), (8, .int xv8)], [.ref a0], h29)) rfl rfl rfl ?_
  refine xle_getI (f := (0, 3, .int, 1)) rfl rfl rfl (fun x30 => ?_)
  refine xle_next (i := .bipush 40) (x' := (140, [(0, .ref a0), (2, .int xv2), (3, .int xv3), (5, va_rf rv5), (6, va_rf rv6), (7, va_rf rv7), (8, .int xv8)], [.int ((Int8.ofInt 40).toInt32), .int x30], h29)) rfl rfl rfl ?_
  refine xle_icmp (cd := .ge) (q := 147) rfl rfl rfl xc_ge (fun _ => ?_) (fun _ => ?_)
  · refine xle_next (i := .iconst 0) (x' := (148, [(0, .ref a0), (2, .int xv2), (3, .int xv3), (5, va_rf rv5), (6, va_rf rv6), (7, va_rf rv7), (8, .int xv8)], [.int (Int32.ofInt 0)], h29)) rfl rfl rfl ?_
    exact xle_jump rfl
  · refine xle_next (i := .iconst 1) (x' := (144, [(0, .ref a0), (2, .int xv2), (3, .int xv3), (5, va_rf rv5), (6, va_rf rv6), (7, va_rf rv7), (8, .int xv8)], [.int (Int32.ofInt 1)], h29)) rfl rfl rfl ?_
    refine xle_next (i := .goto 4) (x' := (148, [(0, .ref a0), (2, .int xv2), (3, .int xv3), (5, va_rf rv5), (6, va_rf rv6), (7, va_rf rv7), (8, .int xv8)], [.int (Int32.ofInt 1)], h29)) rfl rfl rfl ?_
    exact xle_jump rfl
noncomputable def D_K_retype_148 (z : xzs) (a0 : Nat) (xv2 : Int32) (xv3 : Int32) (rv5 : Option Nat) (rv6 : Option Nat) (rv7 : Option Nat) (xv8 : Int32) (xs0 : Int32) (h : xH) : Option xR :=
  xclV (f_K_needState z [.int xs0] h) fun h31 =>
  rv7.bind fun a32 =>
  (rdI h31 a32 5 5).bind fun x33 =>
  (xwr h31 a32 5 5 (.int (x33 + xv8))).bind fun h34 =>
  (xisO h34 a0 0).bind fun _ => xclR (f_K_makeOf z [.ref a0, .ref a32, .int xv2] h34) fun r36 h35 =>
  xlet (xn h35) (xpush h35 7 (.inr (1, [.null, .int 0, .int 0, .null, .null, .int 0, .int 0]))) fun a37 h38 =>
  xclC (f_C_new z [.ref a37, va_rf r36, .int ((Int8.ofInt 7).toInt32), .int (Int32.ofInt 0), va_rf rv5] h38) fun h39 =>
  xclI (f_K_slotOf z [.int xv3] h39) fun x41 h40 =>
  (xisO h40 a0 0).bind fun _ => xclV (f_K_put z [.ref a0, .ref a37, va_rf rv6, .int x41] h40) fun h42 =>
  r36.bind fun a43 =>
  (rdI h42 a43 5 4).bind fun x44 =>
  some (.inl (some (.int x44)), h42)
theorem E_K_retype_148 (z : xzs) (a0 : Nat) (xv2 : Int32) (xv3 : Int32) (rv5 : Option Nat) (rv6 : Option Nat) (rv7 : Option Nat) (xv8 : Int32) (xs0 : Int32) (h : xH) : xle (D_K_retype_148 z a0 xv2 xv3 rv5 rv6 rv7 xv8 xs0 h) (B_K_retype_148 z a0 xv2 xv3 rv5 rv6 rv7 xv8 xs0 h) := by
  unfold D_K_retype_148 B_K_retype_148
  refine xle_clV (i := .invokestatic 95) (fo := f_K_needState z [.int xs0] h) (t := []) rfl rfl rfl (fun h31 => ?_)
  refine xle_ald (k := 7) (r := rv7) rfl rfl rfl ?_
  refine xle_dupq (r := rv7) rfl rfl ?_
  refine xle_some (fun r_ => (154, [(0, .ref a0), (2, .int xv2), (3, .int xv3), (5, va_rf rv5), (6, va_rf rv6), (7, va_rf r_), (8, .int xv8)], [va_rf r_, va_rf r_], h31)) (fun a32 => ?_)
  refine xle_getI (f := (5, 5, .int, 1)) rfl rfl rfl (fun x33 => ?_)
  refine xle_next (i := .iload 8) (x' := (159, [(0, .ref a0), (2, .int xv2), (3, .int xv3), (5, va_rf rv5), (6, va_rf rv6), (7, .ref a32), (8, .int xv8)], [.int xv8, .int x33, .ref a32], h31)) rfl rfl rfl ?_
  refine xle_next (i := .iadd) (x' := (160, [(0, .ref a0), (2, .int xv2), (3, .int xv3), (5, va_rf rv5), (6, va_rf rv6), (7, .ref a32), (8, .int xv8)], [.int (x33 + xv8), .ref a32], h31)) rfl rfl rfl ?_
  refine xle_put (v := .int (x33 + xv8)) (f := (5, 5, .int, 1)) rfl rfl rfl ⟨by decide, rfl, rfl⟩ (fun h34 => ?_)
  refine xle_next (i := .aload_n 0) (x' := (164, [(0, .ref a0), (2, .int xv2), (3, .int xv3), (5, va_rf rv5), (6, va_rf rv6), (7, .ref a32), (8, .int xv8)], [.ref a0], h34)) rfl rfl rfl ?_
  refine xle_next (i := .aload 7) (x' := (166, [(0, .ref a0), (2, .int xv2), (3, .int xv3), (5, va_rf rv5), (6, va_rf rv6), (7, .ref a32), (8, .int xv8)], [.ref a32, .ref a0], h34)) rfl rfl rfl ?_
  refine xle_next (i := .iload_n 2) (x' := (167, [(0, .ref a0), (2, .int xv2), (3, .int xv3), (5, va_rf rv5), (6, va_rf rv6), (7, .ref a32), (8, .int xv8)], [.int xv2, .ref a32, .ref a0], h34)) rfl rfl rfl ?_
  refine xle_isO (i := .invokevirtual 145) (bq := a0) (ci := 0) (fo := (f_K_makeOf z [.ref a0, .ref a32, .int xv2] h34).bind (xback 167 [(0, .ref a0), (2, .int xv2), (3, .int xv3), (5, va_rf rv5), (6, va_rf rv6), (7, .ref a32), (8, .int xv8)] [])) rfl rfl rfl (fun hs => ?_)
  refine xle_clR (t := []) rfl rfl hs (fun r36 h35 => ?_)
  refine xle_ast (k := 9) (r := r36) (L' := [(0, .ref a0), (2, .int xv2), (3, .int xv3), (5, va_rf rv5), (6, va_rf rv6), (7, .ref a32), (8, .int xv8), (9, va_rf r36)]) rfl rfl rfl ?_
  refine xle_next (i := .aload_n 0) (x' := (173, [(0, .ref a0), (2, .int xv2), (3, .int xv3), (5, va_rf rv5), (6, va_rf rv6), (7, .ref a32), (8, .int xv8), (9, va_rf r36)], [.ref a0], h35)) rfl rfl rfl ?_
  refine xle_new (i := .new 49) (pc' := 176) (h' := xpush h35 7 (.inr (1, [.null, .int 0, .int 0, .null, .null, .int 0, .int 0]))) rfl rfl rfl (fun a37 h38 => ?_)
  refine xle_next (i := .dup) (x' := (177, [(0, .ref a0), (2, .int xv2), (3, .int xv3), (5, va_rf rv5), (6, va_rf rv6), (7, .ref a32), (8, .int xv8), (9, va_rf r36)], [.ref a37, .ref a37, .ref a0], h38)) rfl rfl rfl ?_
  refine xle_ald (k := 9) (r := r36) rfl rfl rfl ?_
  refine xle_next (i := .bipush 7) (x' := (181, [(0, .ref a0), (2, .int xv2), (3, .int xv3), (5, va_rf rv5), (6, va_rf rv6), (7, .ref a32), (8, .int xv8), (9, va_rf r36)], [.int ((Int8.ofInt 7).toInt32), va_rf r36, .ref a37, .ref a37, .ref a0], h38)) rfl rfl rfl ?_
  refine xle_next (i := .iconst 0) (x' := (182, [(0, .ref a0), (2, .int xv2), (3, .int xv3), (5, va_rf rv5), (6, va_rf rv6), (7, .ref a32), (8, .int xv8), (9, va_rf r36)], [.int (Int32.ofInt 0), .int ((Int8.ofInt 7).toInt32), va_rf r36, .ref a37, .ref a37, .ref a0], h38)) rfl rfl rfl ?_
  refine xle_ald (k := 5) (r := rv5) rfl rfl rfl ?_
  refine xle_clC (i := .invokespecial 54) (fo := f_C_new z [.ref a37, va_rf r36, .int ((Int8.ofInt 7).toInt32), .int (Int32.ofInt 0), va_rf rv5] h38) (t := [.ref a37, .ref a0]) rfl rfl rfl (fun h39 => ?_)
  refine xle_ald (k := 6) (r := rv6) rfl rfl rfl ?_
  refine xle_next (i := .iload_n 3) (x' := (190, [(0, .ref a0), (2, .int xv2), (3, .int xv3), (5, va_rf rv5), (6, va_rf rv6), (7, .ref a32), (8, .int xv8), (9, va_rf r36)], [.int xv3, va_rf rv6, .ref a37, .ref a0], h39)) rfl rfl rfl ?_
  refine xle_clI (i := .invokestatic 88) (fo := f_K_slotOf z [.int xv3] h39) (t := [va_rf rv6, .ref a37, .ref a0]) rfl rfl rfl (fun x41 h40 => ?_)
  refine xle_isO (i := .invokevirtual 60) (bq := a0) (ci := 0) (fo := (f_K_put z [.ref a0, .ref a37, va_rf rv6, .int x41] h40).bind (xback 193 [(0, .ref a0), (2, .int xv2), (3, .int xv3), (5, va_rf rv5), (6, va_rf rv6), (7, .ref a32), (8, .int xv8), (9, va_rf r36)] [])) rfl rfl rfl (fun hs => ?_)
  refine xle_clV (t := []) rfl rfl hs (fun h42 => ?_)
  refine xle_ald (k := 9) (r := r36) rfl rfl rfl ?_
  refine xle_some (fun r_ => (198, [(0, .ref a0), (2, .int xv2), (3, .int xv3), (5, va_rf rv5), (6, va_rf rv6), (7, .ref a32), (8, .int xv8), (9, va_rf r_)], [va_rf r_], h42)) (fun a43 => ?_)
  refine xle_getI (f := (5, 4, .int, 1)) rfl rfl rfl (fun x44 => ?_)
  exact xle_end (i := .ireturn) rfl rfl rfl
noncomputable def B_K_firstReceiving_22 (z : xzs)  (h : xH) : Option xR := xev (K_K_firstReceiving z) (22, [], [], h)
noncomputable def B_K_firstReceiving_23 (z : xzs) (rs0 : Option Nat) (h : xH) : Option xR := xev (K_K_firstReceiving z) (23, [], [va_rf rs0], h)
noncomputable def D_K_firstReceiving_0 (z : xzs) (a0 : Nat) (p1 : Option Nat) (h : xH) : Option xR :=
  (xisO h a0 0).bind fun _ => xclR (f_K_firstAt z [.ref a0, va_rf p1] h) fun r2 h1 =>
  xcase r2 (
    B_K_firstReceiving_22 z h1
  ) fun a3 =>
    (rdI h1 a3 2 2).bind fun x4 =>
    if ¬ x4 = (Int32.ofInt 4) then
      B_K_firstReceiving_22 z h1
    else
      B_K_firstReceiving_23 z (some a3) h1
theorem E_K_firstReceiving (z : xzs) (a0 : Nat) (p1 : Option Nat) (h : xH) : xle (D_K_firstReceiving_0 z a0 p1 h) (xfun (K_K_firstReceiving z) 3 [.ref a0, va_rf p1] h) := by
  unfold D_K_firstReceiving_0
  refine xle_entry (Nat.le_of_ble_eq_true rfl) (xal_c (xca_a _) (xal_c (xca_r _) (rfl))) ?_
  show xle _ (xev (K_K_firstReceiving z) (0, [(0, .ref a0), (1, va_rf p1)], [], h))
  refine xle_next (i := .aload_n 0) (x' := (1, [(0, .ref a0), (1, va_rf p1)], [.ref a0], h)) rfl rfl rfl ?_
  refine xle_aldn (k := 1) (r := p1) rfl rfl rfl ?_
  refine xle_isO (i := .invokevirtual 214) (bq := a0) (ci := 0) (fo := (f_K_firstAt z [.ref a0, va_rf p1] h).bind (xback 2 [(0, .ref a0), (1, va_rf p1)] [])) rfl rfl rfl (fun hs => ?_)
  refine xle_clR (t := []) rfl rfl hs (fun r2 h1 => ?_)
  refine xle_astn (k := 2) (r := r2) (L' := [(0, .ref a0), (1, va_rf p1), (2, va_rf r2)]) rfl rfl rfl ?_
  refine xle_aldn (k := 2) (r := r2) rfl rfl rfl ?_
  refine xle_case (fun r_ => (7, [(0, .ref a0), (1, va_rf p1), (2, va_rf r_)], [va_rf r_], h1)) ?_ (fun a3 => ?_)
  · refine xle_next (i := .ifnull 15) (x' := (22, [(0, .ref a0), (1, va_rf p1), (2, .null)], [], h1)) rfl rfl rfl ?_
    exact xle_jump rfl
  · refine xle_next (i := .ifnull 15) (x' := (10, [(0, .ref a0), (1, va_rf p1), (2, .ref a3)], [], h1)) rfl rfl rfl ?_
    refine xle_next (i := .aload_n 2) (x' := (11, [(0, .ref a0), (1, va_rf p1), (2, .ref a3)], [.ref a3], h1)) rfl rfl rfl ?_
    refine xle_getI (f := (2, 2, .int, 1)) rfl rfl rfl (fun x4 => ?_)
    refine xle_next (i := .iconst 4) (x' := (15, [(0, .ref a0), (1, va_rf p1), (2, .ref a3)], [.int (Int32.ofInt 4), .int x4], h1)) rfl rfl rfl ?_
    refine xle_icmp (cd := .ne) (q := 22) rfl rfl rfl xc_ne (fun _ => ?_) (fun _ => ?_)
    · exact xle_jump rfl
    · refine xle_next (i := .aload_n 2) (x' := (19, [(0, .ref a0), (1, va_rf p1), (2, .ref a3)], [.ref a3], h1)) rfl rfl rfl ?_
      refine xle_next (i := .goto 4) (x' := (23, [(0, .ref a0), (1, va_rf p1), (2, .ref a3)], [.ref a3], h1)) rfl rfl rfl ?_
      exact xle_jump rfl
noncomputable def D_K_firstReceiving_22 (z : xzs)  (h : xH) : Option xR :=
  B_K_firstReceiving_23 z none h
theorem E_K_firstReceiving_22 (z : xzs)  (h : xH) : xle (D_K_firstReceiving_22 z  h) (B_K_firstReceiving_22 z  h) := by
  unfold D_K_firstReceiving_22 B_K_firstReceiving_22
  refine xle_next (i := .aconst_null) (x' := (23, [], [.null], h)) rfl rfl rfl ?_
  exact xle_jump rfl
noncomputable def D_K_firstReceiving_23 (z : xzs) (rs0 : Option Nat) (h : xH) : Option xR :=
  some (.inl (some (va_rf rs0)), h)
theorem E_K_firstReceiving_23 (z : xzs) (rs0 : Option Nat) (h : xH) : xle (D_K_firstReceiving_23 z rs0 h) (B_K_firstReceiving_23 z rs0 h) := by
  unfold D_K_firstReceiving_23 B_K_firstReceiving_23
  exact xle_aret (r := rs0) rfl rfl rfl rfl
noncomputable def D_K_beginWaiting_0 (z : xzs) (a0 : Nat) (p1 : Option Nat) (p2 : Option Nat) (p3 : Int32) (h : xH) : Option xR :=
  p1.bind fun a1 =>
  (xwr h a1 2 2 (.int p3)).bind fun h2 =>
  (xwr h2 a1 2 10 (va_rf p2)).bind fun h3 =>
  (xisO h3 a0 0).bind fun _ => xclI (f_K_nextStamp z [.ref a0] h3) fun x5 h4 =>
  (xwr h4 a1 2 9 (.int x5)).bind fun h6 =>
  some (.inl none, h6)
theorem E_K_beginWaiting (z : xzs) (a0 : Nat) (p1 : Option Nat) (p2 : Option Nat) (p3 : Int32) (h : xH) : xle (D_K_beginWaiting_0 z a0 p1 p2 p3 h) (xfun (K_K_beginWaiting z) 4 [.ref a0, va_rf p1, va_rf p2, .int p3] h) := by
  unfold D_K_beginWaiting_0
  refine xle_entry (Nat.le_of_ble_eq_true rfl) (xal_c (xca_a _) (xal_c (xca_r _) (xal_c (xca_r _) (xal_c (xca_i _) (rfl))))) ?_
  show xle _ (xev (K_K_beginWaiting z) (0, [(0, .ref a0), (1, va_rf p1), (2, va_rf p2), (3, .int p3)], [], h))
  refine xle_aldn (k := 1) (r := p1) rfl rfl rfl ?_
  refine xle_next (i := .iload_n 3) (x' := (2, [(0, .ref a0), (1, va_rf p1), (2, va_rf p2), (3, .int p3)], [.int p3, va_rf p1], h)) rfl rfl rfl ?_
  refine xle_some (fun r_ => (2, [(0, .ref a0), (1, va_rf r_), (2, va_rf p2), (3, .int p3)], [.int p3, va_rf r_], h)) (fun a1 => ?_)
  refine xle_put (v := .int p3) (f := (2, 2, .int, 1)) rfl rfl rfl ⟨by decide, rfl, rfl⟩ (fun h2 => ?_)
  refine xle_next (i := .aload_n 1) (x' := (6, [(0, .ref a0), (1, .ref a1), (2, va_rf p2), (3, .int p3)], [.ref a1], h2)) rfl rfl rfl ?_
  refine xle_aldn (k := 2) (r := p2) rfl rfl rfl ?_
  refine xle_put (v := va_rf p2) (f := (2, 10, .object "CapKernel$Thing", 1)) rfl rfl rfl ⟨by decide, xfit_obj _ _⟩ (fun h3 => ?_)
  refine xle_next (i := .aload_n 1) (x' := (11, [(0, .ref a0), (1, .ref a1), (2, va_rf p2), (3, .int p3)], [.ref a1], h3)) rfl rfl rfl ?_
  refine xle_next (i := .aload_n 0) (x' := (12, [(0, .ref a0), (1, .ref a1), (2, va_rf p2), (3, .int p3)], [.ref a0, .ref a1], h3)) rfl rfl rfl ?_
  refine xle_isO (i := .invokevirtual 41) (bq := a0) (ci := 0) (fo := (f_K_nextStamp z [.ref a0] h3).bind (xback 12 [(0, .ref a0), (1, .ref a1), (2, va_rf p2), (3, .int p3)] [.ref a1])) rfl rfl rfl (fun hs => ?_)
  refine xle_clI (t := [.ref a1]) rfl rfl hs (fun x5 h4 => ?_)
  refine xle_put (v := .int x5) (f := (2, 9, .int, 1)) rfl rfl rfl ⟨by decide, rfl, rfl⟩ (fun h6 => ?_)
  exact xle_end (i := .return_) rfl rfl rfl
noncomputable def B_K_handOver_27 (z : xzs)  (h : xH) : Option xR := xev (K_K_handOver z) (27, [], [], h)
noncomputable def D_K_handOver_0 (z : xzs) (a0 : Nat) (p1 : Option Nat) (p2 : Option Nat) (h : xH) : Option xR :=
  p2.bind fun a1 =>
  (rdR h a1 2 14).bind fun r2 =>
  xcase p1 (
    B_K_handOver_27 z h
  ) fun a3 =>
    (rdI h a3 1 6).bind fun x4 =>
    if ¬ x4 = 0 then
      B_K_handOver_27 z h
    else
      xcase r2 (
        B_K_handOver_27 z h
      ) fun a5 =>
        (rdI h a5 5 9).bind fun x6 =>
        if x6 = 0 then
          (rdI h a1 2 15).bind fun x7 =>
          xclI (f_K_slotOf z [.int x7] h) fun x9 h8 =>
          (xisO h8 a5 5).bind fun _ => xclI (f_T_isFree z [.ref a5, .int x9] h8) fun x11 h10 =>
          if ¬ x11 = 0 then
            (rdI h10 a3 1 2).bind fun x12 =>
            (xisO h10 a0 0).bind fun _ => xclI (f_K_derive z [.ref a0, .ref a3, .int ((Int8.ofInt 7).toInt32), .int x12, .ref a5, .int x9] h10) fun x14 h13 =>
            (rdI h13 a1 2 15).bind fun x15 =>
            some (.inl (some (.int x15)), h13)
          else
            some (.inl (some (.int (Int32.ofInt (-1)))), h10)
        else
          B_K_handOver_27 z h
theorem E_K_handOver (z : xzs) (a0 : Nat) (p1 : Option Nat) (p2 : Option Nat) (h : xH) : xle (D_K_handOver_0 z a0 p1 p2 h) (xfun (K_K_handOver z) 5 [.ref a0, va_rf p1, va_rf p2] h) := by
  unfold D_K_handOver_0
  refine xle_entry (Nat.le_of_ble_eq_true rfl) (xal_c (xca_a _) (xal_c (xca_r _) (xal_c (xca_r _) (rfl)))) ?_
  show xle _ (xev (K_K_handOver z) (0, [(0, .ref a0), (1, va_rf p1), (2, va_rf p2)], [], h))
  refine xle_aldn (k := 2) (r := p2) rfl rfl rfl ?_
  refine xle_some (fun r_ => (1, [(0, .ref a0), (1, va_rf p1), (2, va_rf r_)], [va_rf r_], h)) (fun a1 => ?_)
  refine xle_getR (f := (2, 14, .object "CapKernel$Thing", 1)) rfl rfl rfl (fun r2 => ?_)
  refine xle_astn (k := 3) (r := r2) (L' := [(0, .ref a0), (1, va_rf p1), (2, .ref a1), (3, va_rf r2)]) rfl rfl rfl ?_
  refine xle_aldn (k := 1) (r := p1) rfl rfl rfl ?_
  refine xle_case (fun r_ => (6, [(0, .ref a0), (1, va_rf r_), (2, .ref a1), (3, va_rf r2)], [va_rf r_], h)) ?_ (fun a3 => ?_)
  · refine xle_next (i := .ifnull 21) (x' := (27, [(0, .ref a0), (1, .null), (2, .ref a1), (3, va_rf r2)], [], h)) rfl rfl rfl ?_
    exact xle_jump rfl
  · refine xle_next (i := .ifnull 21) (x' := (9, [(0, .ref a0), (1, .ref a3), (2, .ref a1), (3, va_rf r2)], [], h)) rfl rfl rfl ?_
    refine xle_next (i := .aload_n 1) (x' := (10, [(0, .ref a0), (1, .ref a3), (2, .ref a1), (3, va_rf r2)], [.ref a3], h)) rfl rfl rfl ?_
    refine xle_getI (f := (1, 6, .boolean, 1)) rfl rfl rfl (fun x4 => ?_)
    refine xle_if (cd := .ne) (q := 27) rfl rfl rfl xc_ne (fun _ => ?_) (fun _ => ?_)
    · exact xle_jump rfl
    · refine xle_aldn (k := 3) (r := r2) rfl rfl rfl ?_
      refine xle_case (fun r_ => (17, [(0, .ref a0), (1, .ref a3), (2, .ref a1), (3, va_rf r_)], [va_rf r_], h)) ?_ (fun a5 => ?_)
      · refine xle_next (i := .ifnull 10) (x' := (27, [(0, .ref a0), (1, .ref a3), (2, .ref a1), (3, .null)], [], h)) rfl rfl rfl ?_
        exact xle_jump rfl
      · refine xle_next (i := .ifnull 10) (x' := (20, [(0, .ref a0), (1, .ref a3), (2, .ref a1), (3, .ref a5)], [], h)) rfl rfl rfl ?_
        refine xle_next (i := .aload_n 3) (x' := (21, [(0, .ref a0), (1, .ref a3), (2, .ref a1), (3, .ref a5)], [.ref a5], h)) rfl rfl rfl ?_
        refine xle_getI (f := (5, 9, .boolean, 1)) rfl rfl rfl (fun x6 => ?_)
        refine xle_if (cd := .eq) (q := 29) rfl rfl rfl xc_eq (fun _ => ?_) (fun _ => ?_)
        · refine xle_next (i := .aload_n 2) (x' := (30, [(0, .ref a0), (1, .ref a3), (2, .ref a1), (3, .ref a5)], [.ref a1], h)) rfl rfl rfl ?_
          refine xle_getI (f := (2, 15, .int, 1)) rfl rfl rfl (fun x7 => ?_)
          refine xle_clI (i := .invokestatic 88) (fo := f_K_slotOf z [.int x7] h) (t := []) rfl rfl rfl (fun x9 h8 => ?_)
          refine xle_next (i := .istore 4) (x' := (38, [(0, .ref a0), (1, .ref a3), (2, .ref a1), (3, .ref a5), (4, .int x9)], [], h8)) rfl rfl rfl ?_
          refine xle_next (i := .aload_n 3) (x' := (39, [(0, .ref a0), (1, .ref a3), (2, .ref a1), (3, .ref a5), (4, .int x9)], [.ref a5], h8)) rfl rfl rfl ?_
          refine xle_next (i := .iload 4) (x' := (41, [(0, .ref a0), (1, .ref a3), (2, .ref a1), (3, .ref a5), (4, .int x9)], [.int x9, .ref a5], h8)) rfl rfl rfl ?_
          refine xle_isO (i := .invokevirtual 92) (bq := a5) (ci := 5) (fo := (f_T_isFree z [.ref a5, .int x9] h8).bind (xback 41 [(0, .ref a0), (1, .ref a3), (2, .ref a1), (3, .ref a5), (4, .int x9)] [])) rfl rfl rfl (fun hs => ?_)
          refine xle_clI (t := []) rfl rfl hs (fun x11 h10 => ?_)
          refine xle_if (cd := .ne) (q := 49) rfl rfl rfl xc_ne (fun _ => ?_) (fun _ => ?_)
          · refine xle_next (i := .aload_n 0) (x' := (50, [(0, .ref a0), (1, .ref a3), (2, .ref a1), (3, .ref a5), (4, .int x9)], [.ref a0], h10)) rfl rfl rfl ?_
            refine xle_next (i := .aload_n 1) (x' := (51, [(0, .ref a0), (1, .ref a3), (2, .ref a1), (3, .ref a5), (4, .int x9)], [.ref a3, .ref a0], h10)) rfl rfl rfl ?_
            refine xle_next (i := .bipush 7) (x' := (53, [(0, .ref a0), (1, .ref a3), (2, .ref a1), (3, .ref a5), (4, .int x9)], [.int ((Int8.ofInt 7).toInt32), .ref a3, .ref a0], h10)) rfl rfl rfl ?_
            refine xle_next (i := .aload_n 1) (x' := (54, [(0, .ref a0), (1, .ref a3), (2, .ref a1), (3, .ref a5), (4, .int x9)], [.ref a3, .int ((Int8.ofInt 7).toInt32), .ref a3, .ref a0], h10)) rfl rfl rfl ?_
            refine xle_getI (f := (1, 2, .int, 0)) rfl rfl rfl (fun x12 => ?_)
            refine xle_next (i := .aload_n 3) (x' := (58, [(0, .ref a0), (1, .ref a3), (2, .ref a1), (3, .ref a5), (4, .int x9)], [.ref a5, .int x12, .int ((Int8.ofInt 7).toInt32), .ref a3, .ref a0], h10)) rfl rfl rfl ?_
            refine xle_next (i := .iload 4) (x' := (60, [(0, .ref a0), (1, .ref a3), (2, .ref a1), (3, .ref a5), (4, .int x9)], [.int x9, .ref a5, .int x12, .int ((Int8.ofInt 7).toInt32), .ref a3, .ref a0], h10)) rfl rfl rfl ?_
            refine xle_isO (i := .invokevirtual 101) (bq := a0) (ci := 0) (fo := (f_K_derive z [.ref a0, .ref a3, .int ((Int8.ofInt 7).toInt32), .int x12, .ref a5, .int x9] h10).bind (xback 60 [(0, .ref a0), (1, .ref a3), (2, .ref a1), (3, .ref a5), (4, .int x9)] [])) rfl rfl rfl (fun hs => ?_)
            refine xle_clI (t := []) rfl rfl hs (fun x14 h13 => ?_)
            refine xle_next (i := .pop) (x' := (64, [(0, .ref a0), (1, .ref a3), (2, .ref a1), (3, .ref a5), (4, .int x9)], [], h13)) rfl rfl rfl ?_
            refine xle_next (i := .aload_n 2) (x' := (65, [(0, .ref a0), (1, .ref a3), (2, .ref a1), (3, .ref a5), (4, .int x9)], [.ref a1], h13)) rfl rfl rfl ?_
            refine xle_getI (f := (2, 15, .int, 1)) rfl rfl rfl (fun x15 => ?_)
            exact xle_end (i := .ireturn) rfl rfl rfl
          · refine xle_next (i := .iconst (-1)) (x' := (48, [(0, .ref a0), (1, .ref a3), (2, .ref a1), (3, .ref a5), (4, .int x9)], [.int (Int32.ofInt (-1))], h10)) rfl rfl rfl ?_
            exact xle_end (i := .ireturn) rfl rfl rfl
        · exact xle_jump rfl
noncomputable def D_K_handOver_27 (z : xzs)  (h : xH) : Option xR :=
  some (.inl (some (.int (Int32.ofInt (-1)))), h)
theorem E_K_handOver_27 (z : xzs)  (h : xH) : xle (D_K_handOver_27 z  h) (B_K_handOver_27 z  h) := by
  unfold D_K_handOver_27 B_K_handOver_27
  refine xle_next (i := .iconst (-1)) (x' := (28, [], [.int (Int32.ofInt (-1))], h)) rfl rfl rfl ?_
  exact xle_end (i := .ireturn) rfl rfl rfl
noncomputable def D_K_deliver_0 (z : xzs) (a0 : Nat) (p1 : Option Nat) (p2 : Option Nat) (h : xH) : Option xR :=
  p1.bind fun a1 =>
  (rdR h a1 2 13).bind fun r2 =>
  (xisO h a0 0).bind fun _ => xclI (f_K_handOver z [.ref a0, va_rf r2, va_rf p2] h) fun x4 h3 =>
  (rdI h3 a1 2 11).bind fun x5 =>
  (rdI h3 a1 2 12).bind fun x6 =>
  p2.bind fun a7 =>
  (xisO h3 a7 2).bind fun _ => xclV (f_L_hear z [.ref a7, .int x5, .int x6, .int x4] h3) fun h8 =>
  some (.inl none, h8)
theorem E_K_deliver (z : xzs) (a0 : Nat) (p1 : Option Nat) (p2 : Option Nat) (h : xH) : xle (D_K_deliver_0 z a0 p1 p2 h) (xfun (K_K_deliver z) 4 [.ref a0, va_rf p1, va_rf p2] h) := by
  unfold D_K_deliver_0
  refine xle_entry (Nat.le_of_ble_eq_true rfl) (xal_c (xca_a _) (xal_c (xca_r _) (xal_c (xca_r _) (rfl)))) ?_
  show xle _ (xev (K_K_deliver z) (0, [(0, .ref a0), (1, va_rf p1), (2, va_rf p2)], [], h))
  refine xle_next (i := .aload_n 0) (x' := (1, [(0, .ref a0), (1, va_rf p1), (2, va_rf p2)], [.ref a0], h)) rfl rfl rfl ?_
  refine xle_aldn (k := 1) (r := p1) rfl rfl rfl ?_
  refine xle_some (fun r_ => (2, [(0, .ref a0), (1, va_rf r_), (2, va_rf p2)], [va_rf r_, .ref a0], h)) (fun a1 => ?_)
  refine xle_getR (f := (2, 13, .object "CapKernel$Capability", 1)) rfl rfl rfl (fun r2 => ?_)
  refine xle_aldn (k := 2) (r := p2) rfl rfl rfl ?_
  refine xle_isO (i := .invokevirtual 355) (bq := a0) (ci := 0) (fo := (f_K_handOver z [.ref a0, va_rf r2, va_rf p2] h).bind (xback 6 [(0, .ref a0), (1, .ref a1), (2, va_rf p2)] [])) rfl rfl rfl (fun hs => ?_)
  refine xle_clI (t := []) rfl rfl hs (fun x4 h3 => ?_)
  refine xle_next (i := .istore_n 3) (x' := (10, [(0, .ref a0), (1, .ref a1), (2, va_rf p2), (3, .int x4)], [], h3)) rfl rfl rfl ?_
  refine xle_aldn (k := 2) (r := p2) rfl rfl rfl ?_
  refine xle_next (i := .aload_n 1) (x' := (12, [(0, .ref a0), (1, .ref a1), (2, va_rf p2), (3, .int x4)], [.ref a1, va_rf p2], h3)) rfl rfl rfl ?_
  refine xle_getI (f := (2, 11, .int, 1)) rfl rfl rfl (fun x5 => ?_)
  refine xle_next (i := .aload_n 1) (x' := (16, [(0, .ref a0), (1, .ref a1), (2, va_rf p2), (3, .int x4)], [.ref a1, .int x5, va_rf p2], h3)) rfl rfl rfl ?_
  refine xle_getI (f := (2, 12, .int, 1)) rfl rfl rfl (fun x6 => ?_)
  refine xle_next (i := .iload_n 3) (x' := (20, [(0, .ref a0), (1, .ref a1), (2, va_rf p2), (3, .int x4)], [.int x4, .int x6, .int x5, va_rf p2], h3)) rfl rfl rfl ?_
  refine xle_some (fun r_ => (20, [(0, .ref a0), (1, .ref a1), (2, va_rf r_), (3, .int x4)], [.int x4, .int x6, .int x5, va_rf r_], h3)) (fun a7 => ?_)
  refine xle_isO (i := .invokevirtual 177) (bq := a7) (ci := 2) (fo := (f_L_hear z [.ref a7, .int x5, .int x6, .int x4] h3).bind (xback 20 [(0, .ref a0), (1, .ref a1), (2, .ref a7), (3, .int x4)] [])) rfl rfl rfl (fun hs => ?_)
  refine xle_clV (t := []) rfl rfl hs (fun h8 => ?_)
  exact xle_end (i := .return_) rfl rfl rfl
noncomputable def B_K_send_29 (z : xzs) (a0 : Nat) (xv1 : Int32) (xv2 : Int32) (xv3 : Int32) (rv4 : Option Nat) (h : xH) : Option xR := xev (K_K_send z) (29, [(0, .ref a0), (1, .int xv1), (2, .int xv2), (3, .int xv3), (4, va_rf rv4)], [], h)
noncomputable def B_K_send_25 (z : xzs) (a0 : Nat) (xv1 : Int32) (xv2 : Int32) (xv3 : Int32) (rv4 : Option Nat) (h : xH) : Option xR := xev (K_K_send z) (25, [(0, .ref a0), (1, .int xv1), (2, .int xv2), (3, .int xv3), (4, va_rf rv4)], [], h)
noncomputable def B_K_send_30 (z : xzs) (a0 : Nat) (xv1 : Int32) (xv2 : Int32) (xv3 : Int32) (rv4 : Option Nat) (xs0 : Int32) (h : xH) : Option xR := xev (K_K_send z) (30, [(0, .ref a0), (1, .int xv1), (2, .int xv2), (3, .int xv3), (4, va_rf rv4)], [.int xs0], h)
noncomputable def B_K_send_56 (z : xzs) (a0 : Nat) (xv2 : Int32) (rv4 : Option Nat) (rv5 : Option Nat) (rs0 : Option Nat) (h : xH) : Option xR := xev (K_K_send z) (56, [(0, .ref a0), (2, .int xv2), (4, va_rf rv4), (5, va_rf rv5)], [va_rf rs0], h)
noncomputable def B_K_send_75 (z : xzs) (a0 : Nat) (xv2 : Int32) (rv4 : Option Nat) (rv5 : Option Nat) (rv6 : Option Nat) (xs0 : Int32) (h : xH) : Option xR := xev (K_K_send z) (75, [(0, .ref a0), (2, .int xv2), (4, va_rf rv4), (5, va_rf rv5), (6, va_rf rv6)], [.int xs0], h)
noncomputable def B_K_send_91 (z : xzs) (a0 : Nat) (xv2 : Int32) (rv4 : Option Nat) (rv5 : Option Nat) (rv6 : Option Nat) (xs0 : Int32) (rs1 : Option Nat) (h : xH) : Option xR := xev (K_K_send z) (91, [(0, .ref a0), (2, .int xv2), (4, va_rf rv4), (5, va_rf rv5), (6, va_rf rv6)], [.int xs0, va_rf rs1], h)
noncomputable def B_K_send_110 (z : xzs) (a0 : Nat) (xv2 : Int32) (rv4 : Option Nat) (rv5 : Option Nat) (rv6 : Option Nat) (xs0 : Int32) (h : xH) : Option xR := xev (K_K_send z) (110, [(0, .ref a0), (2, .int xv2), (4, va_rf rv4), (5, va_rf rv5), (6, va_rf rv6)], [.int xs0], h)
noncomputable def D_K_send_0 (z : xzs) (a0 : Nat) (p1 : Int32) (p2 : Int32) (p3 : Int32) (h : xH) : Option xR :=
  (xisO h a0 0).bind fun _ => xclR (f_K_actor z [.ref a0] h) fun r2 h1 =>
  xclI (f_K_isAddress z [.int p1] h1) fun x4 h3 =>
  if x4 = 0 then
    B_K_send_29 z a0 p1 p2 p3 r2 h3
  else
    if p3 = (Int32.ofInt (-1)) then
      B_K_send_25 z a0 p1 p2 p3 r2 h3
    else
      xclI (f_K_isAddress z [.int p3] h3) fun x6 h5 =>
      if x6 = 0 then
        B_K_send_29 z a0 p1 p2 p3 r2 h5
      else
        B_K_send_25 z a0 p1 p2 p3 r2 h5
theorem E_K_send (z : xzs) (a0 : Nat) (p1 : Int32) (p2 : Int32) (p3 : Int32) (h : xH) : xle (D_K_send_0 z a0 p1 p2 p3 h) (xfun (K_K_send z) 8 [.ref a0, .int p1, .int p2, .int p3] h) := by
  unfold D_K_send_0
  refine xle_entry (Nat.le_of_ble_eq_true rfl) (xal_c (xca_a _) (xal_c (xca_i _) (xal_c (xca_i _) (xal_c (xca_i _) (rfl))))) ?_
  show xle _ (xev (K_K_send z) (0, [(0, .ref a0), (1, .int p1), (2, .int p2), (3, .int p3)], [], h))
  refine xle_next (i := .aload_n 0) (x' := (1, [(0, .ref a0), (1, .int p1), (2, .int p2), (3, .int p3)], [.ref a0], h)) rfl rfl rfl ?_
  refine xle_isO (i := .invokevirtual 64) (bq := a0) (ci := 0) (fo := (f_K_actor z [.ref a0] h).bind (xback 1 [(0, .ref a0), (1, .int p1), (2, .int p2), (3, .int p3)] [])) rfl rfl rfl (fun hs => ?_)
  refine xle_clR (t := []) rfl rfl hs (fun r2 h1 => ?_)
  refine xle_ast (k := 4) (r := r2) (L' := [(0, .ref a0), (1, .int p1), (2, .int p2), (3, .int p3), (4, va_rf r2)]) rfl rfl rfl ?_
  refine xle_next (i := .iload_n 1) (x' := (7, [(0, .ref a0), (1, .int p1), (2, .int p2), (3, .int p3), (4, va_rf r2)], [.int p1], h1)) rfl rfl rfl ?_
  refine xle_clI (i := .invokestatic 68) (fo := f_K_isAddress z [.int p1] h1) (t := []) rfl rfl rfl (fun x4 h3 => ?_)
  refine xle_if (cd := .eq) (q := 29) rfl rfl rfl xc_eq (fun _ => ?_) (fun _ => ?_)
  · exact xle_jump rfl
  · refine xle_next (i := .iload_n 3) (x' := (14, [(0, .ref a0), (1, .int p1), (2, .int p2), (3, .int p3), (4, va_rf r2)], [.int p3], h3)) rfl rfl rfl ?_
    refine xle_next (i := .iconst (-1)) (x' := (15, [(0, .ref a0), (1, .int p1), (2, .int p2), (3, .int p3), (4, va_rf r2)], [.int (Int32.ofInt (-1)), .int p3], h3)) rfl rfl rfl ?_
    refine xle_icmp (cd := .eq) (q := 25) rfl rfl rfl xc_eq (fun _ => ?_) (fun _ => ?_)
    · exact xle_jump rfl
    · refine xle_next (i := .iload_n 3) (x' := (19, [(0, .ref a0), (1, .int p1), (2, .int p2), (3, .int p3), (4, va_rf r2)], [.int p3], h3)) rfl rfl rfl ?_
      refine xle_clI (i := .invokestatic 68) (fo := f_K_isAddress z [.int p3] h3) (t := []) rfl rfl rfl (fun x6 h5 => ?_)
      refine xle_if (cd := .eq) (q := 29) rfl rfl rfl xc_eq (fun _ => ?_) (fun _ => ?_)
      · exact xle_jump rfl
      · exact xle_jump rfl
noncomputable def D_K_send_29 (z : xzs) (a0 : Nat) (xv1 : Int32) (xv2 : Int32) (xv3 : Int32) (rv4 : Option Nat) (h : xH) : Option xR :=
  B_K_send_30 z a0 xv1 xv2 xv3 rv4 (Int32.ofInt 0) h
theorem E_K_send_29 (z : xzs) (a0 : Nat) (xv1 : Int32) (xv2 : Int32) (xv3 : Int32) (rv4 : Option Nat) (h : xH) : xle (D_K_send_29 z a0 xv1 xv2 xv3 rv4 h) (B_K_send_29 z a0 xv1 xv2 xv3 rv4 h) := by
  unfold D_K_send_29 B_K_send_29
  refine xle_next (i := .iconst 0) (x' := (30, [(0, .ref a0), (1, .int xv1), (2, .int xv2), (3, .int xv3), (4, va_rf rv4)], [.int (Int32.ofInt 0)], h)) rfl rfl rfl ?_
  exact xle_jump rfl
noncomputable def D_K_send_25 (z : xzs) (a0 : Nat) (xv1 : Int32) (xv2 : Int32) (xv3 : Int32) (rv4 : Option Nat) (h : xH) : Option xR :=
  B_K_send_30 z a0 xv1 xv2 xv3 rv4 (Int32.ofInt 1) h
theorem E_K_send_25 (z : xzs) (a0 : Nat) (xv1 : Int32) (xv2 : Int32) (xv3 : Int32) (rv4 : Option Nat) (h : xH) : xle (D_K_send_25 z a0 xv1 xv2 xv3 rv4 h) (B_K_send_25 z a0 xv1 xv2 xv3 rv4 h) := by
  unfold D_K_send_25 B_K_send_25
  refine xle_next (i := .iconst 1) (x' := (26, [(0, .ref a0), (1, .int xv1), (2, .int xv2), (3, .int xv3), (4, va_rf rv4)], [.int (Int32.ofInt 1)], h)) rfl rfl rfl ?_
  refine xle_next (i := .goto 4) (x' := (30, [(0, .ref a0), (1, .int xv1), (2, .int xv2), (3, .int xv3), (4, va_rf rv4)], [.int (Int32.ofInt 1)], h)) rfl rfl rfl ?_
  exact xle_jump rfl
noncomputable def D_K_send_30 (z : xzs) (a0 : Nat) (xv1 : Int32) (xv2 : Int32) (xv3 : Int32) (rv4 : Option Nat) (xs0 : Int32) (h : xH) : Option xR :=
  xclV (f_K_needNumbers z [.int xs0] h) fun h7 =>
  xclR (f_K_capabilityAt z [va_rf rv4, .int xv1] h7) fun r9 h8 =>
  if ¬ xv3 = (Int32.ofInt (-1)) then
    xclR (f_K_capabilityAt z [va_rf rv4, .int xv3] h8) fun r11 h10 =>
    B_K_send_56 z a0 xv2 rv4 r9 r11 h10
  else
    B_K_send_56 z a0 xv2 rv4 r9 none h8
theorem E_K_send_30 (z : xzs) (a0 : Nat) (xv1 : Int32) (xv2 : Int32) (xv3 : Int32) (rv4 : Option Nat) (xs0 : Int32) (h : xH) : xle (D_K_send_30 z a0 xv1 xv2 xv3 rv4 xs0 h) (B_K_send_30 z a0 xv1 xv2 xv3 rv4 xs0 h) := by
  unfold D_K_send_30 B_K_send_30
  refine xle_clV (i := .invokestatic 76) (fo := f_K_needNumbers z [.int xs0] h) (t := []) rfl rfl rfl (fun h7 => ?_)
  refine xle_ald (k := 4) (r := rv4) rfl rfl rfl ?_
  refine xle_next (i := .iload_n 1) (x' := (36, [(0, .ref a0), (1, .int xv1), (2, .int xv2), (3, .int xv3), (4, va_rf rv4)], [.int xv1, va_rf rv4], h7)) rfl rfl rfl ?_
  refine xle_clR (i := .invokestatic 80) (fo := f_K_capabilityAt z [va_rf rv4, .int xv1] h7) (t := []) rfl rfl rfl (fun r9 h8 => ?_)
  refine xle_ast (k := 5) (r := r9) (L' := [(0, .ref a0), (1, .int xv1), (2, .int xv2), (3, .int xv3), (4, va_rf rv4), (5, va_rf r9)]) rfl rfl rfl ?_
  refine xle_next (i := .iload_n 3) (x' := (42, [(0, .ref a0), (1, .int xv1), (2, .int xv2), (3, .int xv3), (4, va_rf rv4), (5, va_rf r9)], [.int xv3], h8)) rfl rfl rfl ?_
  refine xle_next (i := .iconst (-1)) (x' := (43, [(0, .ref a0), (1, .int xv1), (2, .int xv2), (3, .int xv3), (4, va_rf rv4), (5, va_rf r9)], [.int (Int32.ofInt (-1)), .int xv3], h8)) rfl rfl rfl ?_
  refine xle_icmp (cd := .ne) (q := 50) rfl rfl rfl xc_ne (fun _ => ?_) (fun _ => ?_)
  · refine xle_ald (k := 4) (r := rv4) rfl rfl rfl ?_
    refine xle_next (i := .iload_n 3) (x' := (53, [(0, .ref a0), (1, .int xv1), (2, .int xv2), (3, .int xv3), (4, va_rf rv4), (5, va_rf r9)], [.int xv3, va_rf rv4], h8)) rfl rfl rfl ?_
    refine xle_clR (i := .invokestatic 80) (fo := f_K_capabilityAt z [va_rf rv4, .int xv3] h8) (t := []) rfl rfl rfl (fun r11 h10 => ?_)
    exact xle_jump rfl
  · refine xle_next (i := .aconst_null) (x' := (47, [(0, .ref a0), (1, .int xv1), (2, .int xv2), (3, .int xv3), (4, va_rf rv4), (5, va_rf r9)], [.null], h8)) rfl rfl rfl ?_
    refine xle_next (i := .goto 9) (x' := (56, [(0, .ref a0), (1, .int xv1), (2, .int xv2), (3, .int xv3), (4, va_rf rv4), (5, va_rf r9)], [.null], h8)) rfl rfl rfl ?_
    exact xle_jump rfl
noncomputable def D_K_send_56 (z : xzs) (a0 : Nat) (xv2 : Int32) (rv4 : Option Nat) (rv5 : Option Nat) (rs0 : Option Nat) (h : xH) : Option xR :=
  rv5.bind fun a12 =>
  (rdR h a12 1 0).bind fun r13 =>
  r13.bind fun a14 =>
  (rdI h a14 5 0).bind fun x15 =>
  if ¬ x15 = (Int32.ofInt 1) then
    B_K_send_75 z a0 xv2 rv4 (some a12) rs0 (Int32.ofInt 0) h
  else
    B_K_send_75 z a0 xv2 rv4 (some a12) rs0 (Int32.ofInt 1) h
theorem E_K_send_56 (z : xzs) (a0 : Nat) (xv2 : Int32) (rv4 : Option Nat) (rv5 : Option Nat) (rs0 : Option Nat) (h : xH) : xle (D_K_send_56 z a0 xv2 rv4 rv5 rs0 h) (B_K_send_56 z a0 xv2 rv4 rv5 rs0 h) := by
  unfold D_K_send_56 B_K_send_56
  refine xle_ast (k := 6) (r := rs0) (L' := [(0, .ref a0), (2, .int xv2), (4, va_rf rv4), (5, va_rf rv5), (6, va_rf rs0)]) rfl rfl rfl ?_
  refine xle_ald (k := 5) (r := rv5) rfl rfl rfl ?_
  refine xle_some (fun r_ => (60, [(0, .ref a0), (2, .int xv2), (4, va_rf rv4), (5, va_rf r_), (6, va_rf rs0)], [va_rf r_], h)) (fun a12 => ?_)
  refine xle_getR (f := (1, 0, .object "CapKernel$Thing", 0)) rfl rfl rfl (fun r13 => ?_)
  refine xle_some (fun r_ => (63, [(0, .ref a0), (2, .int xv2), (4, va_rf rv4), (5, .ref a12), (6, va_rf rs0)], [va_rf r_], h)) (fun a14 => ?_)
  refine xle_getI (f := (5, 0, .int, 0)) rfl rfl rfl (fun x15 => ?_)
  refine xle_next (i := .iconst 1) (x' := (67, [(0, .ref a0), (2, .int xv2), (4, va_rf rv4), (5, .ref a12), (6, va_rf rs0)], [.int (Int32.ofInt 1), .int x15], h)) rfl rfl rfl ?_
  refine xle_icmp (cd := .ne) (q := 74) rfl rfl rfl xc_ne (fun _ => ?_) (fun _ => ?_)
  · refine xle_next (i := .iconst 0) (x' := (75, [(0, .ref a0), (2, .int xv2), (4, va_rf rv4), (5, .ref a12), (6, va_rf rs0)], [.int (Int32.ofInt 0)], h)) rfl rfl rfl ?_
    exact xle_jump rfl
  · refine xle_next (i := .iconst 1) (x' := (71, [(0, .ref a0), (2, .int xv2), (4, va_rf rv4), (5, .ref a12), (6, va_rf rs0)], [.int (Int32.ofInt 1)], h)) rfl rfl rfl ?_
    refine xle_next (i := .goto 4) (x' := (75, [(0, .ref a0), (2, .int xv2), (4, va_rf rv4), (5, .ref a12), (6, va_rf rs0)], [.int (Int32.ofInt 1)], h)) rfl rfl rfl ?_
    exact xle_jump rfl
noncomputable def D_K_send_75 (z : xzs) (a0 : Nat) (xv2 : Int32) (rv4 : Option Nat) (rv5 : Option Nat) (rv6 : Option Nat) (xs0 : Int32) (h : xH) : Option xR :=
  xclV (f_K_needKind z [.int xs0] h) fun h16 =>
  xcase rv6 (
    B_K_send_91 z a0 xv2 rv4 rv5 none (Int32.ofInt 2) rv5 h16
  ) fun a17 =>
    B_K_send_91 z a0 xv2 rv4 rv5 (some a17) ((Int8.ofInt 6).toInt32) rv5 h16
theorem E_K_send_75 (z : xzs) (a0 : Nat) (xv2 : Int32) (rv4 : Option Nat) (rv5 : Option Nat) (rv6 : Option Nat) (xs0 : Int32) (h : xH) : xle (D_K_send_75 z a0 xv2 rv4 rv5 rv6 xs0 h) (B_K_send_75 z a0 xv2 rv4 rv5 rv6 xs0 h) := by
  unfold D_K_send_75 B_K_send_75
  refine xle_clV (i := .invokestatic 111) (fo := f_K_needKind z [.int xs0] h) (t := []) rfl rfl rfl (fun h16 => ?_)
  refine xle_ald (k := 5) (r := rv5) rfl rfl rfl ?_
  refine xle_ald (k := 6) (r := rv6) rfl rfl rfl ?_
  refine xle_case (fun r_ => (82, [(0, .ref a0), (2, .int xv2), (4, va_rf rv4), (5, va_rf rv5), (6, va_rf r_)], [va_rf r_, va_rf rv5], h16)) ?_ (fun a17 => ?_)
  · refine xle_next (i := .ifnonnull 7) (x' := (85, [(0, .ref a0), (2, .int xv2), (4, va_rf rv4), (5, va_rf rv5), (6, .null)], [va_rf rv5], h16)) rfl rfl rfl ?_
    refine xle_next (i := .iconst 2) (x' := (86, [(0, .ref a0), (2, .int xv2), (4, va_rf rv4), (5, va_rf rv5), (6, .null)], [.int (Int32.ofInt 2), va_rf rv5], h16)) rfl rfl rfl ?_
    refine xle_next (i := .goto 5) (x' := (91, [(0, .ref a0), (2, .int xv2), (4, va_rf rv4), (5, va_rf rv5), (6, .null)], [.int (Int32.ofInt 2), va_rf rv5], h16)) rfl rfl rfl ?_
    exact xle_jump rfl
  · refine xle_next (i := .ifnonnull 7) (x' := (89, [(0, .ref a0), (2, .int xv2), (4, va_rf rv4), (5, va_rf rv5), (6, .ref a17)], [va_rf rv5], h16)) rfl rfl rfl ?_
    refine xle_next (i := .bipush 6) (x' := (91, [(0, .ref a0), (2, .int xv2), (4, va_rf rv4), (5, va_rf rv5), (6, .ref a17)], [.int ((Int8.ofInt 6).toInt32), va_rf rv5], h16)) rfl rfl rfl ?_
    exact xle_jump rfl
noncomputable def D_K_send_91 (z : xzs) (a0 : Nat) (xv2 : Int32) (rv4 : Option Nat) (rv5 : Option Nat) (rv6 : Option Nat) (xs0 : Int32) (rs1 : Option Nat) (h : xH) : Option xR :=
  xclV (f_K_needRights z [va_rf rs1, .int xs0] h) fun h18 =>
  rv5.bind fun a19 =>
  (rdR h18 a19 1 0).bind fun r20 =>
  r20.bind fun a21 =>
  (rdI h18 a21 5 2).bind fun x22 =>
  if ¬ x22 = 0 then
    B_K_send_110 z a0 xv2 rv4 (some a19) rv6 (Int32.ofInt 0) h18
  else
    B_K_send_110 z a0 xv2 rv4 (some a19) rv6 (Int32.ofInt 1) h18
theorem E_K_send_91 (z : xzs) (a0 : Nat) (xv2 : Int32) (rv4 : Option Nat) (rv5 : Option Nat) (rv6 : Option Nat) (xs0 : Int32) (rs1 : Option Nat) (h : xH) : xle (D_K_send_91 z a0 xv2 rv4 rv5 rv6 xs0 rs1 h) (B_K_send_91 z a0 xv2 rv4 rv5 rv6 xs0 rs1 h) := by
  unfold D_K_send_91 B_K_send_91
  refine xle_clV (i := .invokestatic 135) (fo := f_K_needRights z [va_rf rs1, .int xs0] h) (t := []) rfl rfl rfl (fun h18 => ?_)
  refine xle_ald (k := 5) (r := rv5) rfl rfl rfl ?_
  refine xle_some (fun r_ => (96, [(0, .ref a0), (2, .int xv2), (4, va_rf rv4), (5, va_rf r_), (6, va_rf rv6)], [va_rf r_], h18)) (fun a19 => ?_)
  refine xle_getR (f := (1, 0, .object "CapKernel$Thing", 0)) rfl rfl rfl (fun r20 => ?_)
  refine xle_some (fun r_ => (99, [(0, .ref a0), (2, .int xv2), (4, va_rf rv4), (5, .ref a19), (6, va_rf rv6)], [va_rf r_], h18)) (fun a21 => ?_)
  refine xle_getI (f := (5, 2, .int, 0)) rfl rfl rfl (fun x22 => ?_)
  refine xle_if (cd := .ne) (q := 109) rfl rfl rfl xc_ne (fun _ => ?_) (fun _ => ?_)
  · refine xle_next (i := .iconst 0) (x' := (110, [(0, .ref a0), (2, .int xv2), (4, va_rf rv4), (5, .ref a19), (6, va_rf rv6)], [.int (Int32.ofInt 0)], h18)) rfl rfl rfl ?_
    exact xle_jump rfl
  · refine xle_next (i := .iconst 1) (x' := (106, [(0, .ref a0), (2, .int xv2), (4, va_rf rv4), (5, .ref a19), (6, va_rf rv6)], [.int (Int32.ofInt 1)], h18)) rfl rfl rfl ?_
    refine xle_next (i := .goto 4) (x' := (110, [(0, .ref a0), (2, .int xv2), (4, va_rf rv4), (5, .ref a19), (6, va_rf rv6)], [.int (Int32.ofInt 1)], h18)) rfl rfl rfl ?_
    exact xle_jump rfl
noncomputable def D_K_send_110 (z : xzs) (a0 : Nat) (xv2 : Int32) (rv4 : Option Nat) (rv5 : Option Nat) (rv6 : Option Nat) (xs0 : Int32) (h : xH) : Option xR :=
  xclV (f_K_needState z [.int xs0] h) fun h23 =>
  rv5.bind fun a24 =>
  (rdI h23 a24 1 2).bind fun x25 =>
  rv4.bind fun a26 =>
  (xisO h23 a26 2).bind fun _ => xclV (f_L_prepare z [.ref a26, .int xv2, .int x25, va_rf rv6] h23) fun h27 =>
  (rdR h27 a24 1 0).bind fun r28 =>
  (xisO h27 a0 0).bind fun _ => xclR (f_K_firstReceiving z [.ref a0, va_rf r28] h27) fun r30 h29 =>
  xcase r30 (
    (rdR h29 a24 1 0).bind fun r32 =>
    (xisO h29 a0 0).bind fun _ => xclV (f_K_beginWaiting z [.ref a0, .ref a26, va_rf r32, .int (Int32.ofInt 1)] h29) fun h33 =>
    some (.inl (some (.int (Int32.ofInt 1))), h33)
  ) fun a31 =>
    (xisO h29 a0 0).bind fun _ => xclV (f_K_deliver z [.ref a0, .ref a26, .ref a31] h29) fun h34 =>
    (xisO h34 a0 0).bind fun _ => xclV (f_K_makeReady z [.ref a0, .ref a31] h34) fun h35 =>
    some (.inl (some (.int (Int32.ofInt 0))), h35)
theorem E_K_send_110 (z : xzs) (a0 : Nat) (xv2 : Int32) (rv4 : Option Nat) (rv5 : Option Nat) (rv6 : Option Nat) (xs0 : Int32) (h : xH) : xle (D_K_send_110 z a0 xv2 rv4 rv5 rv6 xs0 h) (B_K_send_110 z a0 xv2 rv4 rv5 rv6 xs0 h) := by
  unfold D_K_send_110 B_K_send_110
  refine xle_clV (i := .invokestatic 95) (fo := f_K_needState z [.int xs0] h) (t := []) rfl rfl rfl (fun h23 => ?_)
  refine xle_ald (k := 4) (r := rv4) rfl rfl rfl ?_
  refine xle_next (i := .iload_n 2) (x' := (116, [(0, .ref a0), (2, .int xv2), (4, va_rf rv4), (5, va_rf rv5), (6, va_rf rv6)], [.int xv2, va_rf rv4], h23)) rfl rfl rfl ?_
  refine xle_ald (k := 5) (r := rv5) rfl rfl rfl ?_
  refine xle_some (fun r_ => (118, [(0, .ref a0), (2, .int xv2), (4, va_rf rv4), (5, va_rf r_), (6, va_rf rv6)], [va_rf r_, .int xv2, va_rf rv4], h23)) (fun a24 => ?_)
  refine xle_getI (f := (1, 2, .int, 0)) rfl rfl rfl (fun x25 => ?_)
  refine xle_ald (k := 6) (r := rv6) rfl rfl rfl ?_
  refine xle_some (fun r_ => (123, [(0, .ref a0), (2, .int xv2), (4, va_rf r_), (5, .ref a24), (6, va_rf rv6)], [va_rf rv6, .int x25, .int xv2, va_rf r_], h23)) (fun a26 => ?_)
  refine xle_isO (i := .invokevirtual 153) (bq := a26) (ci := 2) (fo := (f_L_prepare z [.ref a26, .int xv2, .int x25, va_rf rv6] h23).bind (xback 123 [(0, .ref a0), (2, .int xv2), (4, .ref a26), (5, .ref a24), (6, va_rf rv6)] [])) rfl rfl rfl (fun hs => ?_)
  refine xle_clV (t := []) rfl rfl hs (fun h27 => ?_)
  refine xle_next (i := .aload_n 0) (x' := (127, [(0, .ref a0), (2, .int xv2), (4, .ref a26), (5, .ref a24), (6, va_rf rv6)], [.ref a0], h27)) rfl rfl rfl ?_
  refine xle_next (i := .aload 5) (x' := (129, [(0, .ref a0), (2, .int xv2), (4, .ref a26), (5, .ref a24), (6, va_rf rv6)], [.ref a24, .ref a0], h27)) rfl rfl rfl ?_
  refine xle_getR (f := (1, 0, .object "CapKernel$Thing", 0)) rfl rfl rfl (fun r28 => ?_)
  refine xle_isO (i := .invokevirtual 157) (bq := a0) (ci := 0) (fo := (f_K_firstReceiving z [.ref a0, va_rf r28] h27).bind (xback 132 [(0, .ref a0), (2, .int xv2), (4, .ref a26), (5, .ref a24), (6, va_rf rv6)] [])) rfl rfl rfl (fun hs => ?_)
  refine xle_clR (t := []) rfl rfl hs (fun r30 h29 => ?_)
  refine xle_ast (k := 7) (r := r30) (L' := [(0, .ref a0), (2, .int xv2), (4, .ref a26), (5, .ref a24), (6, va_rf rv6), (7, va_rf r30)]) rfl rfl rfl ?_
  refine xle_ald (k := 7) (r := r30) rfl rfl rfl ?_
  refine xle_case (fun r_ => (139, [(0, .ref a0), (2, .int xv2), (4, .ref a26), (5, .ref a24), (6, va_rf rv6), (7, va_rf r_)], [va_rf r_], h29)) ?_ (fun a31 => ?_)
  · refine xle_next (i := .ifnonnull 17) (x' := (142, [(0, .ref a0), (2, .int xv2), (4, .ref a26), (5, .ref a24), (6, va_rf rv6), (7, .null)], [], h29)) rfl rfl rfl ?_
    refine xle_next (i := .aload_n 0) (x' := (143, [(0, .ref a0), (2, .int xv2), (4, .ref a26), (5, .ref a24), (6, va_rf rv6), (7, .null)], [.ref a0], h29)) rfl rfl rfl ?_
    refine xle_next (i := .aload 4) (x' := (145, [(0, .ref a0), (2, .int xv2), (4, .ref a26), (5, .ref a24), (6, va_rf rv6), (7, .null)], [.ref a26, .ref a0], h29)) rfl rfl rfl ?_
    refine xle_next (i := .aload 5) (x' := (147, [(0, .ref a0), (2, .int xv2), (4, .ref a26), (5, .ref a24), (6, va_rf rv6), (7, .null)], [.ref a24, .ref a26, .ref a0], h29)) rfl rfl rfl ?_
    refine xle_getR (f := (1, 0, .object "CapKernel$Thing", 0)) rfl rfl rfl (fun r32 => ?_)
    refine xle_next (i := .iconst 1) (x' := (151, [(0, .ref a0), (2, .int xv2), (4, .ref a26), (5, .ref a24), (6, va_rf rv6), (7, .null)], [.int (Int32.ofInt 1), va_rf r32, .ref a26, .ref a0], h29)) rfl rfl rfl ?_
    refine xle_isO (i := .invokevirtual 161) (bq := a0) (ci := 0) (fo := (f_K_beginWaiting z [.ref a0, .ref a26, va_rf r32, .int (Int32.ofInt 1)] h29).bind (xback 151 [(0, .ref a0), (2, .int xv2), (4, .ref a26), (5, .ref a24), (6, va_rf rv6), (7, .null)] [])) rfl rfl rfl (fun hs => ?_)
    refine xle_clV (t := []) rfl rfl hs (fun h33 => ?_)
    refine xle_next (i := .iconst 1) (x' := (155, [(0, .ref a0), (2, .int xv2), (4, .ref a26), (5, .ref a24), (6, va_rf rv6), (7, .null)], [.int (Int32.ofInt 1)], h33)) rfl rfl rfl ?_
    exact xle_end (i := .ireturn) rfl rfl rfl
  · refine xle_next (i := .ifnonnull 17) (x' := (156, [(0, .ref a0), (2, .int xv2), (4, .ref a26), (5, .ref a24), (6, va_rf rv6), (7, .ref a31)], [], h29)) rfl rfl rfl ?_
    refine xle_next (i := .aload_n 0) (x' := (157, [(0, .ref a0), (2, .int xv2), (4, .ref a26), (5, .ref a24), (6, va_rf rv6), (7, .ref a31)], [.ref a0], h29)) rfl rfl rfl ?_
    refine xle_next (i := .aload 4) (x' := (159, [(0, .ref a0), (2, .int xv2), (4, .ref a26), (5, .ref a24), (6, va_rf rv6), (7, .ref a31)], [.ref a26, .ref a0], h29)) rfl rfl rfl ?_
    refine xle_next (i := .aload 7) (x' := (161, [(0, .ref a0), (2, .int xv2), (4, .ref a26), (5, .ref a24), (6, va_rf rv6), (7, .ref a31)], [.ref a31, .ref a26, .ref a0], h29)) rfl rfl rfl ?_
    refine xle_isO (i := .invokevirtual 165) (bq := a0) (ci := 0) (fo := (f_K_deliver z [.ref a0, .ref a26, .ref a31] h29).bind (xback 161 [(0, .ref a0), (2, .int xv2), (4, .ref a26), (5, .ref a24), (6, va_rf rv6), (7, .ref a31)] [])) rfl rfl rfl (fun hs => ?_)
    refine xle_clV (t := []) rfl rfl hs (fun h34 => ?_)
    refine xle_next (i := .aload_n 0) (x' := (165, [(0, .ref a0), (2, .int xv2), (4, .ref a26), (5, .ref a24), (6, va_rf rv6), (7, .ref a31)], [.ref a0], h34)) rfl rfl rfl ?_
    refine xle_next (i := .aload 7) (x' := (167, [(0, .ref a0), (2, .int xv2), (4, .ref a26), (5, .ref a24), (6, va_rf rv6), (7, .ref a31)], [.ref a31, .ref a0], h34)) rfl rfl rfl ?_
    refine xle_isO (i := .invokevirtual 169) (bq := a0) (ci := 0) (fo := (f_K_makeReady z [.ref a0, .ref a31] h34).bind (xback 167 [(0, .ref a0), (2, .int xv2), (4, .ref a26), (5, .ref a24), (6, va_rf rv6), (7, .ref a31)] [])) rfl rfl rfl (fun hs => ?_)
    refine xle_clV (t := []) rfl rfl hs (fun h35 => ?_)
    refine xle_next (i := .iconst 0) (x' := (171, [(0, .ref a0), (2, .int xv2), (4, .ref a26), (5, .ref a24), (6, va_rf rv6), (7, .ref a31)], [.int (Int32.ofInt 0)], h35)) rfl rfl rfl ?_
    exact xle_end (i := .ireturn) rfl rfl rfl
noncomputable def B_K_namesAnswers_12 (z : xzs)  (h : xH) : Option xR := xev (K_K_namesAnswers z) (12, [], [], h)
noncomputable def B_K_namesAnswers_47 (z : xzs)  (h : xH) : Option xR := xev (K_K_namesAnswers z) (47, [], [], h)
noncomputable def D_K_namesAnswers_0 (z : xzs) (a0 : Nat) (p1 : Option Nat) (p2 : Int32) (p3 : Int32) (h : xH) : Option xR :=
  if p3 < 0 then
    B_K_namesAnswers_12 z h
  else
    if (p3 / ((Int8.ofInt 100).toInt32)) = (Int32.ofInt 1) then
      xclR (f_K_reach z [va_rf p1, .int (p3 - p3 / ((Int8.ofInt 100).toInt32) * ((Int8.ofInt 100).toInt32))] h) fun r2 h1 =>
      xcase r2 (
        B_K_namesAnswers_47 z h1
      ) fun a3 =>
        xclI (f_K_slotOf z [.int (p3 - p3 / ((Int8.ofInt 100).toInt32) * ((Int8.ofInt 100).toInt32))] h1) fun x5 h4 =>
        (xisO h4 a3 5).bind fun _ => xclI (f_T_isFree z [.ref a3, .int x5] h4) fun x7 h6 =>
        if ¬ x7 = 0 then
          xlet (xn h6) (xpush h6 7 (.inr (1, [.null, .int 0, .int 0, .null, .null, .int 0, .int 0]))) fun a8 h9 =>
          (rdR h9 a0 0 1).bind fun r10 =>
          xclC (f_C_new z [.ref a8, va_rf r10, .int (Int32.ofInt 2), .int p2, .null] h9) fun h11 =>
          xclI (f_K_slotOf z [.int (p3 - p3 / ((Int8.ofInt 100).toInt32) * ((Int8.ofInt 100).toInt32))] h11) fun x13 h12 =>
          (xisO h12 a0 0).bind fun _ => xclV (f_K_put z [.ref a0, .ref a8, .ref a3, .int x13] h12) fun h14 =>
          some (.inl (some (.int (Int32.ofInt 0))), h14)
        else
          B_K_namesAnswers_47 z h6
    else
      B_K_namesAnswers_12 z h
theorem E_K_namesAnswers (z : xzs) (a0 : Nat) (p1 : Option Nat) (p2 : Int32) (p3 : Int32) (h : xH) : xle (D_K_namesAnswers_0 z a0 p1 p2 p3 h) (xfun (K_K_namesAnswers z) 6 [.ref a0, va_rf p1, .int p2, .int p3] h) := by
  unfold D_K_namesAnswers_0
  refine xle_entry (Nat.le_of_ble_eq_true rfl) (xal_c (xca_a _) (xal_c (xca_r _) (xal_c (xca_i _) (xal_c (xca_i _) (rfl))))) ?_
  show xle _ (xev (K_K_namesAnswers z) (0, [(0, .ref a0), (1, va_rf p1), (2, .int p2), (3, .int p3)], [], h))
  refine xle_next (i := .iload_n 3) (x' := (1, [(0, .ref a0), (1, va_rf p1), (2, .int p2), (3, .int p3)], [.int p3], h)) rfl rfl rfl ?_
  refine xle_if (cd := .lt) (q := 12) rfl rfl rfl xc_lt (fun _ => ?_) (fun _ => ?_)
  · exact xle_jump rfl
  · refine xle_next (i := .iload_n 3) (x' := (5, [(0, .ref a0), (1, va_rf p1), (2, .int p2), (3, .int p3)], [.int p3], h)) rfl rfl rfl ?_
    refine xle_next (i := .bipush 100) (x' := (7, [(0, .ref a0), (1, va_rf p1), (2, .int p2), (3, .int p3)], [.int ((Int8.ofInt 100).toInt32), .int p3], h)) rfl rfl rfl ?_
    refine xle_next (i := .idiv) (x' := (8, [(0, .ref a0), (1, va_rf p1), (2, .int p2), (3, .int p3)], [.int (p3 / ((Int8.ofInt 100).toInt32))], h)) rfl rfl rfl ?_
    refine xle_next (i := .iconst 1) (x' := (9, [(0, .ref a0), (1, va_rf p1), (2, .int p2), (3, .int p3)], [.int (Int32.ofInt 1), .int (p3 / ((Int8.ofInt 100).toInt32))], h)) rfl rfl rfl ?_
    refine xle_icmp (cd := .eq) (q := 15) rfl rfl rfl xc_eq (fun _ => ?_) (fun _ => ?_)
    · refine xle_next (i := .iload_n 3) (x' := (16, [(0, .ref a0), (1, va_rf p1), (2, .int p2), (3, .int p3)], [.int p3], h)) rfl rfl rfl ?_
      refine xle_next (i := .bipush 100) (x' := (18, [(0, .ref a0), (1, va_rf p1), (2, .int p2), (3, .int p3)], [.int ((Int8.ofInt 100).toInt32), .int p3], h)) rfl rfl rfl ?_
      refine xle_next (i := .irem) (x' := (19, [(0, .ref a0), (1, va_rf p1), (2, .int p2), (3, .int p3)], [.int (p3 - p3 / ((Int8.ofInt 100).toInt32) * ((Int8.ofInt 100).toInt32))], h)) rfl rfl rfl ?_
      refine xle_next (i := .istore 4) (x' := (21, [(0, .ref a0), (1, va_rf p1), (2, .int p2), (3, .int p3), (4, .int (p3 - p3 / ((Int8.ofInt 100).toInt32) * ((Int8.ofInt 100).toInt32)))], [], h)) rfl rfl rfl ?_
      refine xle_aldn (k := 1) (r := p1) rfl rfl rfl ?_
      refine xle_next (i := .iload 4) (x' := (24, [(0, .ref a0), (1, va_rf p1), (2, .int p2), (3, .int p3), (4, .int (p3 - p3 / ((Int8.ofInt 100).toInt32) * ((Int8.ofInt 100).toInt32)))], [.int (p3 - p3 / ((Int8.ofInt 100).toInt32) * ((Int8.ofInt 100).toInt32)), va_rf p1], h)) rfl rfl rfl ?_
      refine xle_clR (i := .invokestatic 283) (fo := f_K_reach z [va_rf p1, .int (p3 - p3 / ((Int8.ofInt 100).toInt32) * ((Int8.ofInt 100).toInt32))] h) (t := []) rfl rfl rfl (fun r2 h1 => ?_)
      refine xle_ast (k := 5) (r := r2) (L' := [(0, .ref a0), (1, va_rf p1), (2, .int p2), (3, .int p3), (4, .int (p3 - p3 / ((Int8.ofInt 100).toInt32) * ((Int8.ofInt 100).toInt32))), (5, va_rf r2)]) rfl rfl rfl ?_
      refine xle_ald (k := 5) (r := r2) rfl rfl rfl ?_
      refine xle_case (fun r_ => (31, [(0, .ref a0), (1, va_rf p1), (2, .int p2), (3, .int p3), (4, .int (p3 - p3 / ((Int8.ofInt 100).toInt32) * ((Int8.ofInt 100).toInt32))), (5, va_rf r_)], [va_rf r_], h1)) ?_ (fun a3 => ?_)
      · refine xle_next (i := .ifnull 16) (x' := (47, [(0, .ref a0), (1, va_rf p1), (2, .int p2), (3, .int p3), (4, .int (p3 - p3 / ((Int8.ofInt 100).toInt32) * ((Int8.ofInt 100).toInt32))), (5, .null)], [], h1)) rfl rfl rfl ?_
        exact xle_jump rfl
      · refine xle_next (i := .ifnull 16) (x' := (34, [(0, .ref a0), (1, va_rf p1), (2, .int p2), (3, .int p3), (4, .int (p3 - p3 / ((Int8.ofInt 100).toInt32) * ((Int8.ofInt 100).toInt32))), (5, .ref a3)], [], h1)) rfl rfl rfl ?_
        refine xle_next (i := .aload 5) (x' := (36, [(0, .ref a0), (1, va_rf p1), (2, .int p2), (3, .int p3), (4, .int (p3 - p3 / ((Int8.ofInt 100).toInt32) * ((Int8.ofInt 100).toInt32))), (5, .ref a3)], [.ref a3], h1)) rfl rfl rfl ?_
        refine xle_next (i := .iload 4) (x' := (38, [(0, .ref a0), (1, va_rf p1), (2, .int p2), (3, .int p3), (4, .int (p3 - p3 / ((Int8.ofInt 100).toInt32) * ((Int8.ofInt 100).toInt32))), (5, .ref a3)], [.int (p3 - p3 / ((Int8.ofInt 100).toInt32) * ((Int8.ofInt 100).toInt32)), .ref a3], h1)) rfl rfl rfl ?_
        refine xle_clI (i := .invokestatic 88) (fo := f_K_slotOf z [.int (p3 - p3 / ((Int8.ofInt 100).toInt32) * ((Int8.ofInt 100).toInt32))] h1) (t := [.ref a3]) rfl rfl rfl (fun x5 h4 => ?_)
        refine xle_isO (i := .invokevirtual 92) (bq := a3) (ci := 5) (fo := (f_T_isFree z [.ref a3, .int x5] h4).bind (xback 41 [(0, .ref a0), (1, va_rf p1), (2, .int p2), (3, .int p3), (4, .int (p3 - p3 / ((Int8.ofInt 100).toInt32) * ((Int8.ofInt 100).toInt32))), (5, .ref a3)] [])) rfl rfl rfl (fun hs => ?_)
        refine xle_clI (t := []) rfl rfl hs (fun x7 h6 => ?_)
        refine xle_if (cd := .ne) (q := 49) rfl rfl rfl xc_ne (fun _ => ?_) (fun _ => ?_)
        · refine xle_next (i := .aload_n 0) (x' := (50, [(0, .ref a0), (1, va_rf p1), (2, .int p2), (3, .int p3), (4, .int (p3 - p3 / ((Int8.ofInt 100).toInt32) * ((Int8.ofInt 100).toInt32))), (5, .ref a3)], [.ref a0], h6)) rfl rfl rfl ?_
          refine xle_new (i := .new 49) (pc' := 53) (h' := xpush h6 7 (.inr (1, [.null, .int 0, .int 0, .null, .null, .int 0, .int 0]))) rfl rfl rfl (fun a8 h9 => ?_)
          refine xle_next (i := .dup) (x' := (54, [(0, .ref a0), (1, va_rf p1), (2, .int p2), (3, .int p3), (4, .int (p3 - p3 / ((Int8.ofInt 100).toInt32) * ((Int8.ofInt 100).toInt32))), (5, .ref a3)], [.ref a8, .ref a8, .ref a0], h9)) rfl rfl rfl ?_
          refine xle_next (i := .aload_n 0) (x' := (55, [(0, .ref a0), (1, va_rf p1), (2, .int p2), (3, .int p3), (4, .int (p3 - p3 / ((Int8.ofInt 100).toInt32) * ((Int8.ofInt 100).toInt32))), (5, .ref a3)], [.ref a0, .ref a8, .ref a8, .ref a0], h9)) rfl rfl rfl ?_
          refine xle_getR (f := (0, 1, .object "CapKernel$Thing", 0)) rfl rfl rfl (fun r10 => ?_)
          refine xle_next (i := .iconst 2) (x' := (59, [(0, .ref a0), (1, va_rf p1), (2, .int p2), (3, .int p3), (4, .int (p3 - p3 / ((Int8.ofInt 100).toInt32) * ((Int8.ofInt 100).toInt32))), (5, .ref a3)], [.int (Int32.ofInt 2), va_rf r10, .ref a8, .ref a8, .ref a0], h9)) rfl rfl rfl ?_
          refine xle_next (i := .iload_n 2) (x' := (60, [(0, .ref a0), (1, va_rf p1), (2, .int p2), (3, .int p3), (4, .int (p3 - p3 / ((Int8.ofInt 100).toInt32) * ((Int8.ofInt 100).toInt32))), (5, .ref a3)], [.int p2, .int (Int32.ofInt 2), va_rf r10, .ref a8, .ref a8, .ref a0], h9)) rfl rfl rfl ?_
          refine xle_next (i := .aconst_null) (x' := (61, [(0, .ref a0), (1, va_rf p1), (2, .int p2), (3, .int p3), (4, .int (p3 - p3 / ((Int8.ofInt 100).toInt32) * ((Int8.ofInt 100).toInt32))), (5, .ref a3)], [.null, .int p2, .int (Int32.ofInt 2), va_rf r10, .ref a8, .ref a8, .ref a0], h9)) rfl rfl rfl ?_
          refine xle_clC (i := .invokespecial 54) (fo := f_C_new z [.ref a8, va_rf r10, .int (Int32.ofInt 2), .int p2, .null] h9) (t := [.ref a8, .ref a0]) rfl rfl rfl (fun h11 => ?_)
          refine xle_next (i := .aload 5) (x' := (66, [(0, .ref a0), (1, va_rf p1), (2, .int p2), (3, .int p3), (4, .int (p3 - p3 / ((Int8.ofInt 100).toInt32) * ((Int8.ofInt 100).toInt32))), (5, .ref a3)], [.ref a3, .ref a8, .ref a0], h11)) rfl rfl rfl ?_
          refine xle_next (i := .iload 4) (x' := (68, [(0, .ref a0), (1, va_rf p1), (2, .int p2), (3, .int p3), (4, .int (p3 - p3 / ((Int8.ofInt 100).toInt32) * ((Int8.ofInt 100).toInt32))), (5, .ref a3)], [.int (p3 - p3 / ((Int8.ofInt 100).toInt32) * ((Int8.ofInt 100).toInt32)), .ref a3, .ref a8, .ref a0], h11)) rfl rfl rfl ?_
          refine xle_clI (i := .invokestatic 88) (fo := f_K_slotOf z [.int (p3 - p3 / ((Int8.ofInt 100).toInt32) * ((Int8.ofInt 100).toInt32))] h11) (t := [.ref a3, .ref a8, .ref a0]) rfl rfl rfl (fun x13 h12 => ?_)
          refine xle_isO (i := .invokevirtual 60) (bq := a0) (ci := 0) (fo := (f_K_put z [.ref a0, .ref a8, .ref a3, .int x13] h12).bind (xback 71 [(0, .ref a0), (1, va_rf p1), (2, .int p2), (3, .int p3), (4, .int (p3 - p3 / ((Int8.ofInt 100).toInt32) * ((Int8.ofInt 100).toInt32))), (5, .ref a3)] [])) rfl rfl rfl (fun hs => ?_)
          refine xle_clV (t := []) rfl rfl hs (fun h14 => ?_)
          refine xle_next (i := .iconst 0) (x' := (75, [(0, .ref a0), (1, va_rf p1), (2, .int p2), (3, .int p3), (4, .int (p3 - p3 / ((Int8.ofInt 100).toInt32) * ((Int8.ofInt 100).toInt32))), (5, .ref a3)], [.int (Int32.ofInt 0)], h14)) rfl rfl rfl ?_
          exact xle_end (i := .ireturn) rfl rfl rfl
        · exact xle_jump rfl
    · exact xle_jump rfl
noncomputable def D_K_namesAnswers_12 (z : xzs)  (h : xH) : Option xR :=
  some (.inl (some (.int ((Int8.ofInt (-2)).toInt32))), h)
theorem E_K_namesAnswers_12 (z : xzs)  (h : xH) : xle (D_K_namesAnswers_12 z  h) (B_K_namesAnswers_12 z  h) := by
  unfold D_K_namesAnswers_12 B_K_namesAnswers_12
  refine xle_next (i := .bipush (-2)) (x' := (14, [], [.int ((Int8.ofInt (-2)).toInt32)], h)) rfl rfl rfl ?_
  exact xle_end (i := .ireturn) rfl rfl rfl
noncomputable def D_K_namesAnswers_47 (z : xzs)  (h : xH) : Option xR :=
  some (.inl (some (.int (Int32.ofInt (-1)))), h)
theorem E_K_namesAnswers_47 (z : xzs)  (h : xH) : xle (D_K_namesAnswers_47 z  h) (B_K_namesAnswers_47 z  h) := by
  unfold D_K_namesAnswers_47 B_K_namesAnswers_47
  refine xle_next (i := .iconst (-1)) (x' := (48, [], [.int (Int32.ofInt (-1))], h)) rfl rfl rfl ?_
  exact xle_end (i := .ireturn) rfl rfl rfl
noncomputable def B_K_serverAnswers_36 (z : xzs) (xs0 : Int32) (h : xH) : Option xR := xev (K_K_serverAnswers z) (36, [], [.int xs0], h)
noncomputable def D_K_serverAnswers_0 (z : xzs) (a0 : Nat) (p1 : Option Nat) (p2 : Option Nat) (p3 : Int32) (h : xH) : Option xR :=
  p2.bind fun a1 =>
  (rdR h a1 1 0).bind fun r2 =>
  r2.bind fun a3 =>
  (rdI h a3 5 2).bind fun x4 =>
  if ¬ x4 = (Int32.ofInt 1) then
    (rdR h a0 0 2).bind fun r5 =>
    (rdI h a1 1 2).bind fun x6 =>
    r5.bind fun a7 =>
    (xisO h a7 4).bind fun _ => xclI (f_F_serve z [.ref a7, .int x6, .int p3] h) fun x9 h8 =>
    B_K_serverAnswers_36 z x9 h8
  else
    (rdI h a1 1 2).bind fun x10 =>
    (xisO h a0 0).bind fun _ => xclI (f_K_namesAnswers z [.ref a0, va_rf p1, .int x10, .int p3] h) fun x12 h11 =>
    B_K_serverAnswers_36 z x12 h11
theorem E_K_serverAnswers (z : xzs) (a0 : Nat) (p1 : Option Nat) (p2 : Option Nat) (p3 : Int32) (h : xH) : xle (D_K_serverAnswers_0 z a0 p1 p2 p3 h) (xfun (K_K_serverAnswers z) 4 [.ref a0, va_rf p1, va_rf p2, .int p3] h) := by
  unfold D_K_serverAnswers_0
  refine xle_entry (Nat.le_of_ble_eq_true rfl) (xal_c (xca_a _) (xal_c (xca_r _) (xal_c (xca_r _) (xal_c (xca_i _) (rfl))))) ?_
  show xle _ (xev (K_K_serverAnswers z) (0, [(0, .ref a0), (1, va_rf p1), (2, va_rf p2), (3, .int p3)], [], h))
  refine xle_aldn (k := 2) (r := p2) rfl rfl rfl ?_
  refine xle_some (fun r_ => (1, [(0, .ref a0), (1, va_rf p1), (2, va_rf r_), (3, .int p3)], [va_rf r_], h)) (fun a1 => ?_)
  refine xle_getR (f := (1, 0, .object "CapKernel$Thing", 0)) rfl rfl rfl (fun r2 => ?_)
  refine xle_some (fun r_ => (4, [(0, .ref a0), (1, va_rf p1), (2, .ref a1), (3, .int p3)], [va_rf r_], h)) (fun a3 => ?_)
  refine xle_getI (f := (5, 2, .int, 0)) rfl rfl rfl (fun x4 => ?_)
  refine xle_next (i := .iconst 1) (x' := (8, [(0, .ref a0), (1, va_rf p1), (2, .ref a1), (3, .int p3)], [.int (Int32.ofInt 1), .int x4], h)) rfl rfl rfl ?_
  refine xle_icmp (cd := .ne) (q := 24) rfl rfl rfl xc_ne (fun _ => ?_) (fun _ => ?_)
  · refine xle_next (i := .aload_n 0) (x' := (25, [(0, .ref a0), (1, va_rf p1), (2, .ref a1), (3, .int p3)], [.ref a0], h)) rfl rfl rfl ?_
    refine xle_getR (f := (0, 2, .object "CapKernel$FileServer", 0)) rfl rfl rfl (fun r5 => ?_)
    refine xle_next (i := .aload_n 2) (x' := (29, [(0, .ref a0), (1, va_rf p1), (2, .ref a1), (3, .int p3)], [.ref a1, va_rf r5], h)) rfl rfl rfl ?_
    refine xle_getI (f := (1, 2, .int, 0)) rfl rfl rfl (fun x6 => ?_)
    refine xle_next (i := .iload_n 3) (x' := (33, [(0, .ref a0), (1, va_rf p1), (2, .ref a1), (3, .int p3)], [.int p3, .int x6, va_rf r5], h)) rfl rfl rfl ?_
    refine xle_some (fun r_ => (33, [(0, .ref a0), (1, va_rf p1), (2, .ref a1), (3, .int p3)], [.int p3, .int x6, va_rf r_], h)) (fun a7 => ?_)
    refine xle_isO (i := .invokevirtual 369) (bq := a7) (ci := 4) (fo := (f_F_serve z [.ref a7, .int x6, .int p3] h).bind (xback 33 [(0, .ref a0), (1, va_rf p1), (2, .ref a1), (3, .int p3)] [])) rfl rfl rfl (fun hs => ?_)
    refine xle_clI (t := []) rfl rfl hs (fun x9 h8 => ?_)
    exact xle_jump rfl
  · refine xle_next (i := .aload_n 0) (x' := (12, [(0, .ref a0), (1, va_rf p1), (2, .ref a1), (3, .int p3)], [.ref a0], h)) rfl rfl rfl ?_
    refine xle_aldn (k := 1) (r := p1) rfl rfl rfl ?_
    refine xle_next (i := .aload_n 2) (x' := (14, [(0, .ref a0), (1, va_rf p1), (2, .ref a1), (3, .int p3)], [.ref a1, va_rf p1, .ref a0], h)) rfl rfl rfl ?_
    refine xle_getI (f := (1, 2, .int, 0)) rfl rfl rfl (fun x10 => ?_)
    refine xle_next (i := .iload_n 3) (x' := (18, [(0, .ref a0), (1, va_rf p1), (2, .ref a1), (3, .int p3)], [.int p3, .int x10, va_rf p1, .ref a0], h)) rfl rfl rfl ?_
    refine xle_isO (i := .invokevirtual 365) (bq := a0) (ci := 0) (fo := (f_K_namesAnswers z [.ref a0, va_rf p1, .int x10, .int p3] h).bind (xback 18 [(0, .ref a0), (1, va_rf p1), (2, .ref a1), (3, .int p3)] [])) rfl rfl rfl (fun hs => ?_)
    refine xle_clI (t := []) rfl rfl hs (fun x12 h11 => ?_)
    refine xle_next (i := .goto 15) (x' := (36, [(0, .ref a0), (1, va_rf p1), (2, .ref a1), (3, .int p3)], [.int x12], h11)) rfl rfl rfl ?_
    exact xle_jump rfl
noncomputable def D_K_serverAnswers_36 (z : xzs) (xs0 : Int32) (h : xH) : Option xR :=
  some (.inl (some (.int xs0)), h)
theorem E_K_serverAnswers_36 (z : xzs) (xs0 : Int32) (h : xH) : xle (D_K_serverAnswers_36 z xs0 h) (B_K_serverAnswers_36 z xs0 h) := by
  unfold D_K_serverAnswers_36 B_K_serverAnswers_36
  exact xle_end (i := .ireturn) rfl rfl rfl
noncomputable def D_K_beginAsking_0 (z : xzs) (p0 : Option Nat) (p1 : Option Nat) (h : xH) : Option xR :=
  p0.bind fun a1 =>
  (xwr h a1 2 2 (.int (Int32.ofInt 3))).bind fun h2 =>
  (xwr h2 a1 2 10 (va_rf none)).bind fun h3 =>
  p1.bind fun a4 =>
  (xwr h3 a4 2 17 (va_rf (some a1))).bind fun h5 =>
  (rdI h5 a1 2 16).bind fun x6 =>
  (xwr h5 a4 2 18 (.int x6)).bind fun h7 =>
  some (.inl none, h7)
theorem E_K_beginAsking (z : xzs) (p0 : Option Nat) (p1 : Option Nat) (h : xH) : xle (D_K_beginAsking_0 z p0 p1 h) (xfun (K_K_beginAsking z) 2 [va_rf p0, va_rf p1] h) := by
  unfold D_K_beginAsking_0
  refine xle_entry (Nat.le_of_ble_eq_true rfl) (xal_c (xca_r _) (xal_c (xca_r _) (rfl))) ?_
  show xle _ (xev (K_K_beginAsking z) (0, [(0, va_rf p0), (1, va_rf p1)], [], h))
  refine xle_aldn (k := 0) (r := p0) rfl rfl rfl ?_
  refine xle_next (i := .iconst 3) (x' := (2, [(0, va_rf p0), (1, va_rf p1)], [.int (Int32.ofInt 3), va_rf p0], h)) rfl rfl rfl ?_
  refine xle_some (fun r_ => (2, [(0, va_rf r_), (1, va_rf p1)], [.int (Int32.ofInt 3), va_rf r_], h)) (fun a1 => ?_)
  refine xle_put (v := .int (Int32.ofInt 3)) (f := (2, 2, .int, 1)) rfl rfl rfl ⟨by decide, rfl, rfl⟩ (fun h2 => ?_)
  refine xle_next (i := .aload_n 0) (x' := (6, [(0, .ref a1), (1, va_rf p1)], [.ref a1], h2)) rfl rfl rfl ?_
  refine xle_next (i := .aconst_null) (x' := (7, [(0, .ref a1), (1, va_rf p1)], [.null, .ref a1], h2)) rfl rfl rfl ?_
  refine xle_put (v := va_rf none) (f := (2, 10, .object "CapKernel$Thing", 1)) rfl rfl rfl ⟨by decide, xfit_obj _ _⟩ (fun h3 => ?_)
  refine xle_aldn (k := 1) (r := p1) rfl rfl rfl ?_
  refine xle_next (i := .aload_n 0) (x' := (12, [(0, .ref a1), (1, va_rf p1)], [.ref a1, va_rf p1], h3)) rfl rfl rfl ?_
  refine xle_some (fun r_ => (12, [(0, .ref a1), (1, va_rf r_)], [.ref a1, va_rf r_], h3)) (fun a4 => ?_)
  refine xle_put (v := va_rf (some a1)) (f := (2, 17, .object "CapKernel$Client", 1)) rfl rfl rfl ⟨by decide, xfit_obj _ _⟩ (fun h5 => ?_)
  refine xle_next (i := .aload_n 1) (x' := (16, [(0, .ref a1), (1, .ref a4)], [.ref a4], h5)) rfl rfl rfl ?_
  refine xle_next (i := .aload_n 0) (x' := (17, [(0, .ref a1), (1, .ref a4)], [.ref a1, .ref a4], h5)) rfl rfl rfl ?_
  refine xle_getI (f := (2, 16, .int, 1)) rfl rfl rfl (fun x6 => ?_)
  refine xle_put (v := .int x6) (f := (2, 18, .int, 1)) rfl rfl rfl ⟨by decide, rfl, rfl⟩ (fun h7 => ?_)
  exact xle_end (i := .return_) rfl rfl rfl
noncomputable def B_K_call_36 (z : xzs) (a0 : Nat) (xv2 : Int32) (rv3 : Option Nat) (rv4 : Option Nat) (xs0 : Int32) (h : xH) : Option xR := xev (K_K_call z) (36, [(0, .ref a0), (2, .int xv2), (3, va_rf rv3), (4, va_rf rv4)], [.int xs0], h)
noncomputable def D_K_call_0 (z : xzs) (a0 : Nat) (p1 : Int32) (p2 : Int32) (h : xH) : Option xR :=
  (xisO h a0 0).bind fun _ => xclR (f_K_actor z [.ref a0] h) fun r2 h1 =>
  xclI (f_K_isAddress z [.int p1] h1) fun x4 h3 =>
  xclV (f_K_needNumbers z [.int x4] h3) fun h5 =>
  xclR (f_K_capabilityAt z [va_rf r2, .int p1] h5) fun r7 h6 =>
  r7.bind fun a8 =>
  (rdR h6 a8 1 0).bind fun r9 =>
  r9.bind fun a10 =>
  (rdI h6 a10 5 0).bind fun x11 =>
  if ¬ x11 = (Int32.ofInt 1) then
    B_K_call_36 z a0 p2 r2 (some a8) (Int32.ofInt 0) h6
  else
    B_K_call_36 z a0 p2 r2 (some a8) (Int32.ofInt 1) h6
theorem E_K_call (z : xzs) (a0 : Nat) (p1 : Int32) (p2 : Int32) (h : xH) : xle (D_K_call_0 z a0 p1 p2 h) (xfun (K_K_call z) 6 [.ref a0, .int p1, .int p2] h) := by
  unfold D_K_call_0
  refine xle_entry (Nat.le_of_ble_eq_true rfl) (xal_c (xca_a _) (xal_c (xca_i _) (xal_c (xca_i _) (rfl)))) ?_
  show xle _ (xev (K_K_call z) (0, [(0, .ref a0), (1, .int p1), (2, .int p2)], [], h))
  refine xle_next (i := .aload_n 0) (x' := (1, [(0, .ref a0), (1, .int p1), (2, .int p2)], [.ref a0], h)) rfl rfl rfl ?_
  refine xle_isO (i := .invokevirtual 64) (bq := a0) (ci := 0) (fo := (f_K_actor z [.ref a0] h).bind (xback 1 [(0, .ref a0), (1, .int p1), (2, .int p2)] [])) rfl rfl rfl (fun hs => ?_)
  refine xle_clR (t := []) rfl rfl hs (fun r2 h1 => ?_)
  refine xle_astn (k := 3) (r := r2) (L' := [(0, .ref a0), (1, .int p1), (2, .int p2), (3, va_rf r2)]) rfl rfl rfl ?_
  refine xle_next (i := .iload_n 1) (x' := (6, [(0, .ref a0), (1, .int p1), (2, .int p2), (3, va_rf r2)], [.int p1], h1)) rfl rfl rfl ?_
  refine xle_clI (i := .invokestatic 68) (fo := f_K_isAddress z [.int p1] h1) (t := []) rfl rfl rfl (fun x4 h3 => ?_)
  refine xle_clV (i := .invokestatic 76) (fo := f_K_needNumbers z [.int x4] h3) (t := []) rfl rfl rfl (fun h5 => ?_)
  refine xle_aldn (k := 3) (r := r2) rfl rfl rfl ?_
  refine xle_next (i := .iload_n 1) (x' := (14, [(0, .ref a0), (1, .int p1), (2, .int p2), (3, va_rf r2)], [.int p1, va_rf r2], h5)) rfl rfl rfl ?_
  refine xle_clR (i := .invokestatic 80) (fo := f_K_capabilityAt z [va_rf r2, .int p1] h5) (t := []) rfl rfl rfl (fun r7 h6 => ?_)
  refine xle_ast (k := 4) (r := r7) (L' := [(0, .ref a0), (1, .int p1), (2, .int p2), (3, va_rf r2), (4, va_rf r7)]) rfl rfl rfl ?_
  refine xle_ald (k := 4) (r := r7) rfl rfl rfl ?_
  refine xle_some (fun r_ => (21, [(0, .ref a0), (1, .int p1), (2, .int p2), (3, va_rf r2), (4, va_rf r_)], [va_rf r_], h6)) (fun a8 => ?_)
  refine xle_getR (f := (1, 0, .object "CapKernel$Thing", 0)) rfl rfl rfl (fun r9 => ?_)
  refine xle_some (fun r_ => (24, [(0, .ref a0), (1, .int p1), (2, .int p2), (3, va_rf r2), (4, .ref a8)], [va_rf r_], h6)) (fun a10 => ?_)
  refine xle_getI (f := (5, 0, .int, 0)) rfl rfl rfl (fun x11 => ?_)
  refine xle_next (i := .iconst 1) (x' := (28, [(0, .ref a0), (1, .int p1), (2, .int p2), (3, va_rf r2), (4, .ref a8)], [.int (Int32.ofInt 1), .int x11], h6)) rfl rfl rfl ?_
  refine xle_icmp (cd := .ne) (q := 35) rfl rfl rfl xc_ne (fun _ => ?_) (fun _ => ?_)
  · refine xle_next (i := .iconst 0) (x' := (36, [(0, .ref a0), (1, .int p1), (2, .int p2), (3, va_rf r2), (4, .ref a8)], [.int (Int32.ofInt 0)], h6)) rfl rfl rfl ?_
    exact xle_jump rfl
  · refine xle_next (i := .iconst 1) (x' := (32, [(0, .ref a0), (1, .int p1), (2, .int p2), (3, va_rf r2), (4, .ref a8)], [.int (Int32.ofInt 1)], h6)) rfl rfl rfl ?_
    refine xle_next (i := .goto 4) (x' := (36, [(0, .ref a0), (1, .int p1), (2, .int p2), (3, va_rf r2), (4, .ref a8)], [.int (Int32.ofInt 1)], h6)) rfl rfl rfl ?_
    exact xle_jump rfl
noncomputable def D_K_call_36 (z : xzs) (a0 : Nat) (xv2 : Int32) (rv3 : Option Nat) (rv4 : Option Nat) (xs0 : Int32) (h : xH) : Option xR :=
  xclV (f_K_needKind z [.int xs0] h) fun h12 =>
  xclV (f_K_needRights z [va_rf rv4, .int (Int32.ofInt 2)] h12) fun h13 =>
  rv4.bind fun a14 =>
  (rdR h13 a14 1 0).bind fun r15 =>
  r15.bind fun a16 =>
  (rdI h13 a16 5 2).bind fun x17 =>
  if x17 = 0 then
    (rdI h13 a14 1 2).bind fun x18 =>
    rv3.bind fun a19 =>
    (xisO h13 a19 2).bind fun _ => xclV (f_L_prepare z [.ref a19, .int xv2, .int x18, .null] h13) fun h20 =>
    (rdI h20 a19 2 16).bind fun x21 =>
    (xwr h20 a19 2 16 (.int (x21 + (Int32.ofInt 1)))).bind fun h22 =>
    (rdR h22 a14 1 0).bind fun r23 =>
    (xisO h22 a0 0).bind fun _ => xclR (f_K_firstReceiving z [.ref a0, va_rf r23] h22) fun r25 h24 =>
    xcase r25 (
      (rdR h24 a14 1 0).bind fun r27 =>
      (xisO h24 a0 0).bind fun _ => xclV (f_K_beginWaiting z [.ref a0, .ref a19, va_rf r27, .int (Int32.ofInt 2)] h24) fun h28 =>
      some (.inl (some (.int (Int32.ofInt 1))), h28)
    ) fun a26 =>
      (xisO h24 a0 0).bind fun _ => xclV (f_K_deliver z [.ref a0, .ref a19, .ref a26] h24) fun h29 =>
      xclV (f_K_beginAsking z [.ref a19, .ref a26] h29) fun h30 =>
      (xisO h30 a0 0).bind fun _ => xclV (f_K_makeReady z [.ref a0, .ref a26] h30) fun h31 =>
      some (.inl (some (.int (Int32.ofInt 0))), h31)
  else
    (xisO h13 a0 0).bind fun _ => xclI (f_K_serverAnswers z [.ref a0, va_rf rv3, .ref a14, .int xv2] h13) fun x33 h32 =>
    rv3.bind fun a34 =>
    (xisO h32 a34 2).bind fun _ => xclV (f_L_hear z [.ref a34, .int x33, .int (Int32.ofInt 0), .int (Int32.ofInt (-1))] h32) fun h35 =>
    some (.inl (some (.int (Int32.ofInt 2))), h35)
theorem E_K_call_36 (z : xzs) (a0 : Nat) (xv2 : Int32) (rv3 : Option Nat) (rv4 : Option Nat) (xs0 : Int32) (h : xH) : xle (D_K_call_36 z a0 xv2 rv3 rv4 xs0 h) (B_K_call_36 z a0 xv2 rv3 rv4 xs0 h) := by
  unfold D_K_call_36 B_K_call_36
  refine xle_clV (i := .invokestatic 111) (fo := f_K_needKind z [.int xs0] h) (t := []) rfl rfl rfl (fun h12 => ?_)
  refine xle_ald (k := 4) (r := rv4) rfl rfl rfl ?_
  refine xle_next (i := .iconst 2) (x' := (42, [(0, .ref a0), (2, .int xv2), (3, va_rf rv3), (4, va_rf rv4)], [.int (Int32.ofInt 2), va_rf rv4], h12)) rfl rfl rfl ?_
  refine xle_clV (i := .invokestatic 135) (fo := f_K_needRights z [va_rf rv4, .int (Int32.ofInt 2)] h12) (t := []) rfl rfl rfl (fun h13 => ?_)
  refine xle_ald (k := 4) (r := rv4) rfl rfl rfl ?_
  refine xle_some (fun r_ => (47, [(0, .ref a0), (2, .int xv2), (3, va_rf rv3), (4, va_rf r_)], [va_rf r_], h13)) (fun a14 => ?_)
  refine xle_getR (f := (1, 0, .object "CapKernel$Thing", 0)) rfl rfl rfl (fun r15 => ?_)
  refine xle_some (fun r_ => (50, [(0, .ref a0), (2, .int xv2), (3, va_rf rv3), (4, .ref a14)], [va_rf r_], h13)) (fun a16 => ?_)
  refine xle_getI (f := (5, 2, .int, 0)) rfl rfl rfl (fun x17 => ?_)
  refine xle_if (cd := .eq) (q := 72) rfl rfl rfl xc_eq (fun _ => ?_) (fun _ => ?_)
  · refine xle_aldn (k := 3) (r := rv3) rfl rfl rfl ?_
    refine xle_next (i := .iload_n 2) (x' := (74, [(0, .ref a0), (2, .int xv2), (3, va_rf rv3), (4, .ref a14)], [.int xv2, va_rf rv3], h13)) rfl rfl rfl ?_
    refine xle_next (i := .aload 4) (x' := (76, [(0, .ref a0), (2, .int xv2), (3, va_rf rv3), (4, .ref a14)], [.ref a14, .int xv2, va_rf rv3], h13)) rfl rfl rfl ?_
    refine xle_getI (f := (1, 2, .int, 0)) rfl rfl rfl (fun x18 => ?_)
    refine xle_next (i := .aconst_null) (x' := (80, [(0, .ref a0), (2, .int xv2), (3, va_rf rv3), (4, .ref a14)], [.null, .int x18, .int xv2, va_rf rv3], h13)) rfl rfl rfl ?_
    refine xle_some (fun r_ => (80, [(0, .ref a0), (2, .int xv2), (3, va_rf r_), (4, .ref a14)], [.null, .int x18, .int xv2, va_rf r_], h13)) (fun a19 => ?_)
    refine xle_isO (i := .invokevirtual 153) (bq := a19) (ci := 2) (fo := (f_L_prepare z [.ref a19, .int xv2, .int x18, .null] h13).bind (xback 80 [(0, .ref a0), (2, .int xv2), (3, .ref a19), (4, .ref a14)] [])) rfl rfl rfl (fun hs => ?_)
    refine xle_clV (t := []) rfl rfl hs (fun h20 => ?_)
    refine xle_next (i := .aload_n 3) (x' := (84, [(0, .ref a0), (2, .int xv2), (3, .ref a19), (4, .ref a14)], [.ref a19], h20)) rfl rfl rfl ?_
    refine xle_next (i := .dup) (x' := (85, [(0, .ref a0), (2, .int xv2), (3, .ref a19), (4, .ref a14)], [.ref a19, .ref a19], h20)) rfl rfl rfl ?_
    refine xle_getI (f := (2, 16, .int, 1)) rfl rfl rfl (fun x21 => ?_)
    refine xle_next (i := .iconst 1) (x' := (89, [(0, .ref a0), (2, .int xv2), (3, .ref a19), (4, .ref a14)], [.int (Int32.ofInt 1), .int x21, .ref a19], h20)) rfl rfl rfl ?_
    refine xle_next (i := .iadd) (x' := (90, [(0, .ref a0), (2, .int xv2), (3, .ref a19), (4, .ref a14)], [.int (x21 + (Int32.ofInt 1)), .ref a19], h20)) rfl rfl rfl ?_
    refine xle_put (v := .int (x21 + (Int32.ofInt 1))) (f := (2, 16, .int, 1)) rfl rfl rfl ⟨by decide, rfl, rfl⟩ (fun h22 => ?_)
    refine xle_next (i := .aload_n 0) (x' := (94, [(0, .ref a0), (2, .int xv2), (3, .ref a19), (4, .ref a14)], [.ref a0], h22)) rfl rfl rfl ?_
    refine xle_next (i := .aload 4) (x' := (96, [(0, .ref a0), (2, .int xv2), (3, .ref a19), (4, .ref a14)], [.ref a14, .ref a0], h22)) rfl rfl rfl ?_
    refine xle_getR (f := (1, 0, .object "CapKernel$Thing", 0)) rfl rfl rfl (fun r23 => ?_)
    refine xle_isO (i := .invokevirtual 157) (bq := a0) (ci := 0) (fo := (f_K_firstReceiving z [.ref a0, va_rf r23] h22).bind (xback 99 [(0, .ref a0), (2, .int xv2), (3, .ref a19), (4, .ref a14)] [])) rfl rfl rfl (fun hs => ?_)
    refine xle_clR (t := []) rfl rfl hs (fun r25 h24 => ?_)
    refine xle_ast (k := 5) (r := r25) (L' := [(0, .ref a0), (2, .int xv2), (3, .ref a19), (4, .ref a14), (5, va_rf r25)]) rfl rfl rfl ?_
    refine xle_ald (k := 5) (r := r25) rfl rfl rfl ?_
    refine xle_case (fun r_ => (106, [(0, .ref a0), (2, .int xv2), (3, .ref a19), (4, .ref a14), (5, va_rf r_)], [va_rf r_], h24)) ?_ (fun a26 => ?_)
    · refine xle_next (i := .ifnonnull 16) (x' := (109, [(0, .ref a0), (2, .int xv2), (3, .ref a19), (4, .ref a14), (5, .null)], [], h24)) rfl rfl rfl ?_
      refine xle_next (i := .aload_n 0) (x' := (110, [(0, .ref a0), (2, .int xv2), (3, .ref a19), (4, .ref a14), (5, .null)], [.ref a0], h24)) rfl rfl rfl ?_
      refine xle_next (i := .aload_n 3) (x' := (111, [(0, .ref a0), (2, .int xv2), (3, .ref a19), (4, .ref a14), (5, .null)], [.ref a19, .ref a0], h24)) rfl rfl rfl ?_
      refine xle_next (i := .aload 4) (x' := (113, [(0, .ref a0), (2, .int xv2), (3, .ref a19), (4, .ref a14), (5, .null)], [.ref a14, .ref a19, .ref a0], h24)) rfl rfl rfl ?_
      refine xle_getR (f := (1, 0, .object "CapKernel$Thing", 0)) rfl rfl rfl (fun r27 => ?_)
      refine xle_next (i := .iconst 2) (x' := (117, [(0, .ref a0), (2, .int xv2), (3, .ref a19), (4, .ref a14), (5, .null)], [.int (Int32.ofInt 2), va_rf r27, .ref a19, .ref a0], h24)) rfl rfl rfl ?_
      refine xle_isO (i := .invokevirtual 161) (bq := a0) (ci := 0) (fo := (f_K_beginWaiting z [.ref a0, .ref a19, va_rf r27, .int (Int32.ofInt 2)] h24).bind (xback 117 [(0, .ref a0), (2, .int xv2), (3, .ref a19), (4, .ref a14), (5, .null)] [])) rfl rfl rfl (fun hs => ?_)
      refine xle_clV (t := []) rfl rfl hs (fun h28 => ?_)
      refine xle_next (i := .iconst 1) (x' := (121, [(0, .ref a0), (2, .int xv2), (3, .ref a19), (4, .ref a14), (5, .null)], [.int (Int32.ofInt 1)], h28)) rfl rfl rfl ?_
      exact xle_end (i := .ireturn) rfl rfl rfl
    · refine xle_next (i := .ifnonnull 16) (x' := (122, [(0, .ref a0), (2, .int xv2), (3, .ref a19), (4, .ref a14), (5, .ref a26)], [], h24)) rfl rfl rfl ?_
      refine xle_next (i := .aload_n 0) (x' := (123, [(0, .ref a0), (2, .int xv2), (3, .ref a19), (4, .ref a14), (5, .ref a26)], [.ref a0], h24)) rfl rfl rfl ?_
      refine xle_next (i := .aload_n 3) (x' := (124, [(0, .ref a0), (2, .int xv2), (3, .ref a19), (4, .ref a14), (5, .ref a26)], [.ref a19, .ref a0], h24)) rfl rfl rfl ?_
      refine xle_next (i := .aload 5) (x' := (126, [(0, .ref a0), (2, .int xv2), (3, .ref a19), (4, .ref a14), (5, .ref a26)], [.ref a26, .ref a19, .ref a0], h24)) rfl rfl rfl ?_
      refine xle_isO (i := .invokevirtual 165) (bq := a0) (ci := 0) (fo := (f_K_deliver z [.ref a0, .ref a19, .ref a26] h24).bind (xback 126 [(0, .ref a0), (2, .int xv2), (3, .ref a19), (4, .ref a14), (5, .ref a26)] [])) rfl rfl rfl (fun hs => ?_)
      refine xle_clV (t := []) rfl rfl hs (fun h29 => ?_)
      refine xle_next (i := .aload_n 3) (x' := (130, [(0, .ref a0), (2, .int xv2), (3, .ref a19), (4, .ref a14), (5, .ref a26)], [.ref a19], h29)) rfl rfl rfl ?_
      refine xle_next (i := .aload 5) (x' := (132, [(0, .ref a0), (2, .int xv2), (3, .ref a19), (4, .ref a14), (5, .ref a26)], [.ref a26, .ref a19], h29)) rfl rfl rfl ?_
      refine xle_clV (i := .invokestatic 183) (fo := f_K_beginAsking z [.ref a19, .ref a26] h29) (t := []) rfl rfl rfl (fun h30 => ?_)
      refine xle_next (i := .aload_n 0) (x' := (136, [(0, .ref a0), (2, .int xv2), (3, .ref a19), (4, .ref a14), (5, .ref a26)], [.ref a0], h30)) rfl rfl rfl ?_
      refine xle_next (i := .aload 5) (x' := (138, [(0, .ref a0), (2, .int xv2), (3, .ref a19), (4, .ref a14), (5, .ref a26)], [.ref a26, .ref a0], h30)) rfl rfl rfl ?_
      refine xle_isO (i := .invokevirtual 169) (bq := a0) (ci := 0) (fo := (f_K_makeReady z [.ref a0, .ref a26] h30).bind (xback 138 [(0, .ref a0), (2, .int xv2), (3, .ref a19), (4, .ref a14), (5, .ref a26)] [])) rfl rfl rfl (fun hs => ?_)
      refine xle_clV (t := []) rfl rfl hs (fun h31 => ?_)
      refine xle_next (i := .iconst 0) (x' := (142, [(0, .ref a0), (2, .int xv2), (3, .ref a19), (4, .ref a14), (5, .ref a26)], [.int (Int32.ofInt 0)], h31)) rfl rfl rfl ?_
      exact xle_end (i := .ireturn) rfl rfl rfl
  · refine xle_aldn (k := 3) (r := rv3) rfl rfl rfl ?_
    refine xle_next (i := .aload_n 0) (x' := (58, [(0, .ref a0), (2, .int xv2), (3, va_rf rv3), (4, .ref a14)], [.ref a0, va_rf rv3], h13)) rfl rfl rfl ?_
    refine xle_aldn (k := 3) (r := rv3) rfl rfl rfl ?_
    refine xle_next (i := .aload 4) (x' := (61, [(0, .ref a0), (2, .int xv2), (3, va_rf rv3), (4, .ref a14)], [.ref a14, va_rf rv3, .ref a0, va_rf rv3], h13)) rfl rfl rfl ?_
    refine xle_next (i := .iload_n 2) (x' := (62, [(0, .ref a0), (2, .int xv2), (3, va_rf rv3), (4, .ref a14)], [.int xv2, .ref a14, va_rf rv3, .ref a0, va_rf rv3], h13)) rfl rfl rfl ?_
    refine xle_isO (i := .invokevirtual 173) (bq := a0) (ci := 0) (fo := (f_K_serverAnswers z [.ref a0, va_rf rv3, .ref a14, .int xv2] h13).bind (xback 62 [(0, .ref a0), (2, .int xv2), (3, va_rf rv3), (4, .ref a14)] [va_rf rv3])) rfl rfl rfl (fun hs => ?_)
    refine xle_clI (t := [va_rf rv3]) rfl rfl hs (fun x33 h32 => ?_)
    refine xle_next (i := .iconst 0) (x' := (66, [(0, .ref a0), (2, .int xv2), (3, va_rf rv3), (4, .ref a14)], [.int (Int32.ofInt 0), .int x33, va_rf rv3], h32)) rfl rfl rfl ?_
    refine xle_next (i := .iconst (-1)) (x' := (67, [(0, .ref a0), (2, .int xv2), (3, va_rf rv3), (4, .ref a14)], [.int (Int32.ofInt (-1)), .int (Int32.ofInt 0), .int x33, va_rf rv3], h32)) rfl rfl rfl ?_
    refine xle_some (fun r_ => (67, [(0, .ref a0), (2, .int xv2), (3, va_rf r_), (4, .ref a14)], [.int (Int32.ofInt (-1)), .int (Int32.ofInt 0), .int x33, va_rf r_], h32)) (fun a34 => ?_)
    refine xle_isO (i := .invokevirtual 177) (bq := a34) (ci := 2) (fo := (f_L_hear z [.ref a34, .int x33, .int (Int32.ofInt 0), .int (Int32.ofInt (-1))] h32).bind (xback 67 [(0, .ref a0), (2, .int xv2), (3, .ref a34), (4, .ref a14)] [])) rfl rfl rfl (fun hs => ?_)
    refine xle_clV (t := []) rfl rfl hs (fun h35 => ?_)
    refine xle_next (i := .iconst 2) (x' := (71, [(0, .ref a0), (2, .int xv2), (3, .ref a34), (4, .ref a14)], [.int (Int32.ofInt 2)], h35)) rfl rfl rfl ?_
    exact xle_end (i := .ireturn) rfl rfl rfl
noncomputable def B_K_firstSending_22 (z : xzs)  (h : xH) : Option xR := xev (K_K_firstSending z) (22, [], [], h)
noncomputable def B_K_firstSending_23 (z : xzs) (rs0 : Option Nat) (h : xH) : Option xR := xev (K_K_firstSending z) (23, [], [va_rf rs0], h)
noncomputable def D_K_firstSending_0 (z : xzs) (a0 : Nat) (p1 : Option Nat) (h : xH) : Option xR :=
  (xisO h a0 0).bind fun _ => xclR (f_K_firstAt z [.ref a0, va_rf p1] h) fun r2 h1 =>
  xcase r2 (
    B_K_firstSending_22 z h1
  ) fun a3 =>
    (rdI h1 a3 2 2).bind fun x4 =>
    if x4 = (Int32.ofInt 4) then
      B_K_firstSending_22 z h1
    else
      B_K_firstSending_23 z (some a3) h1
theorem E_K_firstSending (z : xzs) (a0 : Nat) (p1 : Option Nat) (h : xH) : xle (D_K_firstSending_0 z a0 p1 h) (xfun (K_K_firstSending z) 3 [.ref a0, va_rf p1] h) := by
  unfold D_K_firstSending_0
  refine xle_entry (Nat.le_of_ble_eq_true rfl) (xal_c (xca_a _) (xal_c (xca_r _) (rfl))) ?_
  show xle _ (xev (K_K_firstSending z) (0, [(0, .ref a0), (1, va_rf p1)], [], h))
  refine xle_next (i := .aload_n 0) (x' := (1, [(0, .ref a0), (1, va_rf p1)], [.ref a0], h)) rfl rfl rfl ?_
  refine xle_aldn (k := 1) (r := p1) rfl rfl rfl ?_
  refine xle_isO (i := .invokevirtual 214) (bq := a0) (ci := 0) (fo := (f_K_firstAt z [.ref a0, va_rf p1] h).bind (xback 2 [(0, .ref a0), (1, va_rf p1)] [])) rfl rfl rfl (fun hs => ?_)
  refine xle_clR (t := []) rfl rfl hs (fun r2 h1 => ?_)
  refine xle_astn (k := 2) (r := r2) (L' := [(0, .ref a0), (1, va_rf p1), (2, va_rf r2)]) rfl rfl rfl ?_
  refine xle_aldn (k := 2) (r := r2) rfl rfl rfl ?_
  refine xle_case (fun r_ => (7, [(0, .ref a0), (1, va_rf p1), (2, va_rf r_)], [va_rf r_], h1)) ?_ (fun a3 => ?_)
  · refine xle_next (i := .ifnull 15) (x' := (22, [(0, .ref a0), (1, va_rf p1), (2, .null)], [], h1)) rfl rfl rfl ?_
    exact xle_jump rfl
  · refine xle_next (i := .ifnull 15) (x' := (10, [(0, .ref a0), (1, va_rf p1), (2, .ref a3)], [], h1)) rfl rfl rfl ?_
    refine xle_next (i := .aload_n 2) (x' := (11, [(0, .ref a0), (1, va_rf p1), (2, .ref a3)], [.ref a3], h1)) rfl rfl rfl ?_
    refine xle_getI (f := (2, 2, .int, 1)) rfl rfl rfl (fun x4 => ?_)
    refine xle_next (i := .iconst 4) (x' := (15, [(0, .ref a0), (1, va_rf p1), (2, .ref a3)], [.int (Int32.ofInt 4), .int x4], h1)) rfl rfl rfl ?_
    refine xle_icmp (cd := .eq) (q := 22) rfl rfl rfl xc_eq (fun _ => ?_) (fun _ => ?_)
    · exact xle_jump rfl
    · refine xle_next (i := .aload_n 2) (x' := (19, [(0, .ref a0), (1, va_rf p1), (2, .ref a3)], [.ref a3], h1)) rfl rfl rfl ?_
      refine xle_next (i := .goto 4) (x' := (23, [(0, .ref a0), (1, va_rf p1), (2, .ref a3)], [.ref a3], h1)) rfl rfl rfl ?_
      exact xle_jump rfl
noncomputable def D_K_firstSending_22 (z : xzs)  (h : xH) : Option xR :=
  B_K_firstSending_23 z none h
theorem E_K_firstSending_22 (z : xzs)  (h : xH) : xle (D_K_firstSending_22 z  h) (B_K_firstSending_22 z  h) := by
  unfold D_K_firstSending_22 B_K_firstSending_22
  refine xle_next (i := .aconst_null) (x' := (23, [], [.null], h)) rfl rfl rfl ?_
  exact xle_jump rfl
noncomputable def D_K_firstSending_23 (z : xzs) (rs0 : Option Nat) (h : xH) : Option xR :=
  some (.inl (some (va_rf rs0)), h)
theorem E_K_firstSending_23 (z : xzs) (rs0 : Option Nat) (h : xH) : xle (D_K_firstSending_23 z rs0 h) (B_K_firstSending_23 z rs0 h) := by
  unfold D_K_firstSending_23 B_K_firstSending_23
  exact xle_aret (r := rs0) rfl rfl rfl rfl
noncomputable def B_K_receive_28 (z : xzs) (a0 : Nat) (xv1 : Int32) (xv2 : Int32) (rv3 : Option Nat) (h : xH) : Option xR := xev (K_K_receive z) (28, [(0, .ref a0), (1, .int xv1), (2, .int xv2), (3, va_rf rv3)], [], h)
noncomputable def B_K_receive_24 (z : xzs) (a0 : Nat) (xv1 : Int32) (xv2 : Int32) (rv3 : Option Nat) (h : xH) : Option xR := xev (K_K_receive z) (24, [(0, .ref a0), (1, .int xv1), (2, .int xv2), (3, va_rf rv3)], [], h)
noncomputable def B_K_receive_29 (z : xzs) (a0 : Nat) (xv1 : Int32) (xv2 : Int32) (rv3 : Option Nat) (xs0 : Int32) (h : xH) : Option xR := xev (K_K_receive z) (29, [(0, .ref a0), (1, .int xv1), (2, .int xv2), (3, va_rf rv3)], [.int xs0], h)
noncomputable def B_K_receive_53 (z : xzs) (a0 : Nat) (xv2 : Int32) (rv3 : Option Nat) (rv4 : Option Nat) (rs0 : Option Nat) (h : xH) : Option xR := xev (K_K_receive z) (53, [(0, .ref a0), (2, .int xv2), (3, va_rf rv3), (4, va_rf rv4)], [va_rf rs0], h)
noncomputable def B_K_receive_72 (z : xzs) (a0 : Nat) (xv2 : Int32) (rv3 : Option Nat) (rv4 : Option Nat) (rv5 : Option Nat) (xs0 : Int32) (h : xH) : Option xR := xev (K_K_receive z) (72, [(0, .ref a0), (2, .int xv2), (3, va_rf rv3), (4, va_rf rv4), (5, va_rf rv5)], [.int xs0], h)
noncomputable def B_K_receive_97 (z : xzs) (a0 : Nat) (xv2 : Int32) (rv3 : Option Nat) (rv4 : Option Nat) (rv5 : Option Nat) (xs0 : Int32) (h : xH) : Option xR := xev (K_K_receive z) (97, [(0, .ref a0), (2, .int xv2), (3, va_rf rv3), (4, va_rf rv4), (5, va_rf rv5)], [.int xs0], h)
noncomputable def B_K_receive_177 (z : xzs)  (h : xH) : Option xR := xev (K_K_receive z) (177, [], [], h)
noncomputable def D_K_receive_0 (z : xzs) (a0 : Nat) (p1 : Int32) (p2 : Int32) (h : xH) : Option xR :=
  (xisO h a0 0).bind fun _ => xclR (f_K_actor z [.ref a0] h) fun r2 h1 =>
  xclI (f_K_isAddress z [.int p1] h1) fun x4 h3 =>
  if x4 = 0 then
    B_K_receive_28 z a0 p1 p2 r2 h3
  else
    if p2 = (Int32.ofInt (-1)) then
      B_K_receive_24 z a0 p1 p2 r2 h3
    else
      xclI (f_K_isAddress z [.int p2] h3) fun x6 h5 =>
      if x6 = 0 then
        B_K_receive_28 z a0 p1 p2 r2 h5
      else
        B_K_receive_24 z a0 p1 p2 r2 h5
theorem E_K_receive (z : xzs) (a0 : Nat) (p1 : Int32) (p2 : Int32) (h : xH) : xle (D_K_receive_0 z a0 p1 p2 h) (xfun (K_K_receive z) 7 [.ref a0, .int p1, .int p2] h) := by
  unfold D_K_receive_0
  refine xle_entry (Nat.le_of_ble_eq_true rfl) (xal_c (xca_a _) (xal_c (xca_i _) (xal_c (xca_i _) (rfl)))) ?_
  show xle _ (xev (K_K_receive z) (0, [(0, .ref a0), (1, .int p1), (2, .int p2)], [], h))
  refine xle_next (i := .aload_n 0) (x' := (1, [(0, .ref a0), (1, .int p1), (2, .int p2)], [.ref a0], h)) rfl rfl rfl ?_
  refine xle_isO (i := .invokevirtual 64) (bq := a0) (ci := 0) (fo := (f_K_actor z [.ref a0] h).bind (xback 1 [(0, .ref a0), (1, .int p1), (2, .int p2)] [])) rfl rfl rfl (fun hs => ?_)
  refine xle_clR (t := []) rfl rfl hs (fun r2 h1 => ?_)
  refine xle_astn (k := 3) (r := r2) (L' := [(0, .ref a0), (1, .int p1), (2, .int p2), (3, va_rf r2)]) rfl rfl rfl ?_
  refine xle_next (i := .iload_n 1) (x' := (6, [(0, .ref a0), (1, .int p1), (2, .int p2), (3, va_rf r2)], [.int p1], h1)) rfl rfl rfl ?_
  refine xle_clI (i := .invokestatic 68) (fo := f_K_isAddress z [.int p1] h1) (t := []) rfl rfl rfl (fun x4 h3 => ?_)
  refine xle_if (cd := .eq) (q := 28) rfl rfl rfl xc_eq (fun _ => ?_) (fun _ => ?_)
  · exact xle_jump rfl
  · refine xle_next (i := .iload_n 2) (x' := (13, [(0, .ref a0), (1, .int p1), (2, .int p2), (3, va_rf r2)], [.int p2], h3)) rfl rfl rfl ?_
    refine xle_next (i := .iconst (-1)) (x' := (14, [(0, .ref a0), (1, .int p1), (2, .int p2), (3, va_rf r2)], [.int (Int32.ofInt (-1)), .int p2], h3)) rfl rfl rfl ?_
    refine xle_icmp (cd := .eq) (q := 24) rfl rfl rfl xc_eq (fun _ => ?_) (fun _ => ?_)
    · exact xle_jump rfl
    · refine xle_next (i := .iload_n 2) (x' := (18, [(0, .ref a0), (1, .int p1), (2, .int p2), (3, va_rf r2)], [.int p2], h3)) rfl rfl rfl ?_
      refine xle_clI (i := .invokestatic 68) (fo := f_K_isAddress z [.int p2] h3) (t := []) rfl rfl rfl (fun x6 h5 => ?_)
      refine xle_if (cd := .eq) (q := 28) rfl rfl rfl xc_eq (fun _ => ?_) (fun _ => ?_)
      · exact xle_jump rfl
      · exact xle_jump rfl
noncomputable def D_K_receive_28 (z : xzs) (a0 : Nat) (xv1 : Int32) (xv2 : Int32) (rv3 : Option Nat) (h : xH) : Option xR :=
  B_K_receive_29 z a0 xv1 xv2 rv3 (Int32.ofInt 0) h
theorem E_K_receive_28 (z : xzs) (a0 : Nat) (xv1 : Int32) (xv2 : Int32) (rv3 : Option Nat) (h : xH) : xle (D_K_receive_28 z a0 xv1 xv2 rv3 h) (B_K_receive_28 z a0 xv1 xv2 rv3 h) := by
  unfold D_K_receive_28 B_K_receive_28
  refine xle_next (i := .iconst 0) (x' := (29, [(0, .ref a0), (1, .int xv1), (2, .int xv2), (3, va_rf rv3)], [.int (Int32.ofInt 0)], h)) rfl rfl rfl ?_
  exact xle_jump rfl
noncomputable def D_K_receive_24 (z : xzs) (a0 : Nat) (xv1 : Int32) (xv2 : Int32) (rv3 : Option Nat) (h : xH) : Option xR :=
  B_K_receive_29 z a0 xv1 xv2 rv3 (Int32.ofInt 1) h
theorem E_K_receive_24 (z : xzs) (a0 : Nat) (xv1 : Int32) (xv2 : Int32) (rv3 : Option Nat) (h : xH) : xle (D_K_receive_24 z a0 xv1 xv2 rv3 h) (B_K_receive_24 z a0 xv1 xv2 rv3 h) := by
  unfold D_K_receive_24 B_K_receive_24
  refine xle_next (i := .iconst 1) (x' := (25, [(0, .ref a0), (1, .int xv1), (2, .int xv2), (3, va_rf rv3)], [.int (Int32.ofInt 1)], h)) rfl rfl rfl ?_
  refine xle_next (i := .goto 4) (x' := (29, [(0, .ref a0), (1, .int xv1), (2, .int xv2), (3, va_rf rv3)], [.int (Int32.ofInt 1)], h)) rfl rfl rfl ?_
  exact xle_jump rfl
noncomputable def D_K_receive_29 (z : xzs) (a0 : Nat) (xv1 : Int32) (xv2 : Int32) (rv3 : Option Nat) (xs0 : Int32) (h : xH) : Option xR :=
  xclV (f_K_needNumbers z [.int xs0] h) fun h7 =>
  xclR (f_K_capabilityAt z [va_rf rv3, .int xv1] h7) fun r9 h8 =>
  if ¬ xv2 = (Int32.ofInt (-1)) then
    xclR (f_K_tableAt z [va_rf rv3, .int xv2] h8) fun r11 h10 =>
    B_K_receive_53 z a0 xv2 rv3 r9 r11 h10
  else
    B_K_receive_53 z a0 xv2 rv3 r9 none h8
theorem E_K_receive_29 (z : xzs) (a0 : Nat) (xv1 : Int32) (xv2 : Int32) (rv3 : Option Nat) (xs0 : Int32) (h : xH) : xle (D_K_receive_29 z a0 xv1 xv2 rv3 xs0 h) (B_K_receive_29 z a0 xv1 xv2 rv3 xs0 h) := by
  unfold D_K_receive_29 B_K_receive_29
  refine xle_clV (i := .invokestatic 76) (fo := f_K_needNumbers z [.int xs0] h) (t := []) rfl rfl rfl (fun h7 => ?_)
  refine xle_aldn (k := 3) (r := rv3) rfl rfl rfl ?_
  refine xle_next (i := .iload_n 1) (x' := (34, [(0, .ref a0), (1, .int xv1), (2, .int xv2), (3, va_rf rv3)], [.int xv1, va_rf rv3], h7)) rfl rfl rfl ?_
  refine xle_clR (i := .invokestatic 80) (fo := f_K_capabilityAt z [va_rf rv3, .int xv1] h7) (t := []) rfl rfl rfl (fun r9 h8 => ?_)
  refine xle_ast (k := 4) (r := r9) (L' := [(0, .ref a0), (1, .int xv1), (2, .int xv2), (3, va_rf rv3), (4, va_rf r9)]) rfl rfl rfl ?_
  refine xle_next (i := .iload_n 2) (x' := (40, [(0, .ref a0), (1, .int xv1), (2, .int xv2), (3, va_rf rv3), (4, va_rf r9)], [.int xv2], h8)) rfl rfl rfl ?_
  refine xle_next (i := .iconst (-1)) (x' := (41, [(0, .ref a0), (1, .int xv1), (2, .int xv2), (3, va_rf rv3), (4, va_rf r9)], [.int (Int32.ofInt (-1)), .int xv2], h8)) rfl rfl rfl ?_
  refine xle_icmp (cd := .ne) (q := 48) rfl rfl rfl xc_ne (fun _ => ?_) (fun _ => ?_)
  · refine xle_aldn (k := 3) (r := rv3) rfl rfl rfl ?_
    refine xle_next (i := .iload_n 2) (x' := (50, [(0, .ref a0), (1, .int xv1), (2, .int xv2), (3, va_rf rv3), (4, va_rf r9)], [.int xv2, va_rf rv3], h8)) rfl rfl rfl ?_
    refine xle_clR (i := .invokestatic 84) (fo := f_K_tableAt z [va_rf rv3, .int xv2] h8) (t := []) rfl rfl rfl (fun r11 h10 => ?_)
    exact xle_jump rfl
  · refine xle_next (i := .aconst_null) (x' := (45, [(0, .ref a0), (1, .int xv1), (2, .int xv2), (3, va_rf rv3), (4, va_rf r9)], [.null], h8)) rfl rfl rfl ?_
    refine xle_next (i := .goto 8) (x' := (53, [(0, .ref a0), (1, .int xv1), (2, .int xv2), (3, va_rf rv3), (4, va_rf r9)], [.null], h8)) rfl rfl rfl ?_
    exact xle_jump rfl
noncomputable def D_K_receive_53 (z : xzs) (a0 : Nat) (xv2 : Int32) (rv3 : Option Nat) (rv4 : Option Nat) (rs0 : Option Nat) (h : xH) : Option xR :=
  rv4.bind fun a12 =>
  (rdR h a12 1 0).bind fun r13 =>
  r13.bind fun a14 =>
  (rdI h a14 5 0).bind fun x15 =>
  if ¬ x15 = (Int32.ofInt 1) then
    B_K_receive_72 z a0 xv2 rv3 (some a12) rs0 (Int32.ofInt 0) h
  else
    B_K_receive_72 z a0 xv2 rv3 (some a12) rs0 (Int32.ofInt 1) h
theorem E_K_receive_53 (z : xzs) (a0 : Nat) (xv2 : Int32) (rv3 : Option Nat) (rv4 : Option Nat) (rs0 : Option Nat) (h : xH) : xle (D_K_receive_53 z a0 xv2 rv3 rv4 rs0 h) (B_K_receive_53 z a0 xv2 rv3 rv4 rs0 h) := by
  unfold D_K_receive_53 B_K_receive_53
  refine xle_ast (k := 5) (r := rs0) (L' := [(0, .ref a0), (2, .int xv2), (3, va_rf rv3), (4, va_rf rv4), (5, va_rf rs0)]) rfl rfl rfl ?_
  refine xle_ald (k := 4) (r := rv4) rfl rfl rfl ?_
  refine xle_some (fun r_ => (57, [(0, .ref a0), (2, .int xv2), (3, va_rf rv3), (4, va_rf r_), (5, va_rf rs0)], [va_rf r_], h)) (fun a12 => ?_)
  refine xle_getR (f := (1, 0, .object "CapKernel$Thing", 0)) rfl rfl rfl (fun r13 => ?_)
  refine xle_some (fun r_ => (60, [(0, .ref a0), (2, .int xv2), (3, va_rf rv3), (4, .ref a12), (5, va_rf rs0)], [va_rf r_], h)) (fun a14 => ?_)
  refine xle_getI (f := (5, 0, .int, 0)) rfl rfl rfl (fun x15 => ?_)
  refine xle_next (i := .iconst 1) (x' := (64, [(0, .ref a0), (2, .int xv2), (3, va_rf rv3), (4, .ref a12), (5, va_rf rs0)], [.int (Int32.ofInt 1), .int x15], h)) rfl rfl rfl ?_
  refine xle_icmp (cd := .ne) (q := 71) rfl rfl rfl xc_ne (fun _ => ?_) (fun _ => ?_)
  · refine xle_next (i := .iconst 0) (x' := (72, [(0, .ref a0), (2, .int xv2), (3, va_rf rv3), (4, .ref a12), (5, va_rf rs0)], [.int (Int32.ofInt 0)], h)) rfl rfl rfl ?_
    exact xle_jump rfl
  · refine xle_next (i := .iconst 1) (x' := (68, [(0, .ref a0), (2, .int xv2), (3, va_rf rv3), (4, .ref a12), (5, va_rf rs0)], [.int (Int32.ofInt 1)], h)) rfl rfl rfl ?_
    refine xle_next (i := .goto 4) (x' := (72, [(0, .ref a0), (2, .int xv2), (3, va_rf rv3), (4, .ref a12), (5, va_rf rs0)], [.int (Int32.ofInt 1)], h)) rfl rfl rfl ?_
    exact xle_jump rfl
noncomputable def D_K_receive_72 (z : xzs) (a0 : Nat) (xv2 : Int32) (rv3 : Option Nat) (rv4 : Option Nat) (rv5 : Option Nat) (xs0 : Int32) (h : xH) : Option xR :=
  xclV (f_K_needKind z [.int xs0] h) fun h16 =>
  xclV (f_K_needRights z [va_rf rv4, .int (Int32.ofInt 1)] h16) fun h17 =>
  rv4.bind fun a18 =>
  (rdR h17 a18 1 0).bind fun r19 =>
  r19.bind fun a20 =>
  (rdI h17 a20 5 2).bind fun x21 =>
  if ¬ x21 = 0 then
    B_K_receive_97 z a0 xv2 rv3 (some a18) rv5 (Int32.ofInt 0) h17
  else
    B_K_receive_97 z a0 xv2 rv3 (some a18) rv5 (Int32.ofInt 1) h17
theorem E_K_receive_72 (z : xzs) (a0 : Nat) (xv2 : Int32) (rv3 : Option Nat) (rv4 : Option Nat) (rv5 : Option Nat) (xs0 : Int32) (h : xH) : xle (D_K_receive_72 z a0 xv2 rv3 rv4 rv5 xs0 h) (B_K_receive_72 z a0 xv2 rv3 rv4 rv5 xs0 h) := by
  unfold D_K_receive_72 B_K_receive_72
  refine xle_clV (i := .invokestatic 111) (fo := f_K_needKind z [.int xs0] h) (t := []) rfl rfl rfl (fun h16 => ?_)
  refine xle_ald (k := 4) (r := rv4) rfl rfl rfl ?_
  refine xle_next (i := .iconst 1) (x' := (78, [(0, .ref a0), (2, .int xv2), (3, va_rf rv3), (4, va_rf rv4), (5, va_rf rv5)], [.int (Int32.ofInt 1), va_rf rv4], h16)) rfl rfl rfl ?_
  refine xle_clV (i := .invokestatic 135) (fo := f_K_needRights z [va_rf rv4, .int (Int32.ofInt 1)] h16) (t := []) rfl rfl rfl (fun h17 => ?_)
  refine xle_ald (k := 4) (r := rv4) rfl rfl rfl ?_
  refine xle_some (fun r_ => (83, [(0, .ref a0), (2, .int xv2), (3, va_rf rv3), (4, va_rf r_), (5, va_rf rv5)], [va_rf r_], h17)) (fun a18 => ?_)
  refine xle_getR (f := (1, 0, .object "CapKernel$Thing", 0)) rfl rfl rfl (fun r19 => ?_)
  refine xle_some (fun r_ => (86, [(0, .ref a0), (2, .int xv2), (3, va_rf rv3), (4, .ref a18), (5, va_rf rv5)], [va_rf r_], h17)) (fun a20 => ?_)
  refine xle_getI (f := (5, 2, .int, 0)) rfl rfl rfl (fun x21 => ?_)
  refine xle_if (cd := .ne) (q := 96) rfl rfl rfl xc_ne (fun _ => ?_) (fun _ => ?_)
  · refine xle_next (i := .iconst 0) (x' := (97, [(0, .ref a0), (2, .int xv2), (3, va_rf rv3), (4, .ref a18), (5, va_rf rv5)], [.int (Int32.ofInt 0)], h17)) rfl rfl rfl ?_
    exact xle_jump rfl
  · refine xle_next (i := .iconst 1) (x' := (93, [(0, .ref a0), (2, .int xv2), (3, va_rf rv3), (4, .ref a18), (5, va_rf rv5)], [.int (Int32.ofInt 1)], h17)) rfl rfl rfl ?_
    refine xle_next (i := .goto 4) (x' := (97, [(0, .ref a0), (2, .int xv2), (3, va_rf rv3), (4, .ref a18), (5, va_rf rv5)], [.int (Int32.ofInt 1)], h17)) rfl rfl rfl ?_
    exact xle_jump rfl
noncomputable def D_K_receive_97 (z : xzs) (a0 : Nat) (xv2 : Int32) (rv3 : Option Nat) (rv4 : Option Nat) (rv5 : Option Nat) (xs0 : Int32) (h : xH) : Option xR :=
  xclV (f_K_needState z [.int xs0] h) fun h22 =>
  rv3.bind fun a23 =>
  (xwr h22 a23 2 14 (va_rf rv5)).bind fun h24 =>
  (xwr h24 a23 2 15 (.int xv2)).bind fun h25 =>
  rv4.bind fun a26 =>
  (rdR h25 a26 1 0).bind fun r27 =>
  (xisO h25 a0 0).bind fun _ => xclR (f_K_firstSending z [.ref a0, va_rf r27] h25) fun r29 h28 =>
  xcase r29 (
    (rdR h28 a26 1 0).bind fun r31 =>
    (xisO h28 a0 0).bind fun _ => xclV (f_K_beginWaiting z [.ref a0, .ref a23, va_rf r31, .int (Int32.ofInt 4)] h28) fun h32 =>
    some (.inl (some (.int (Int32.ofInt 1))), h32)
  ) fun a30 =>
    (xisO h28 a0 0).bind fun _ => xclV (f_K_deliver z [.ref a0, .ref a30, .ref a23] h28) fun h33 =>
    (rdI h33 a30 2 2).bind fun x34 =>
    if ¬ x34 = (Int32.ofInt 2) then
      (xwr h33 a30 2 3 (.int (Int32.ofInt 0))).bind fun h35 =>
      (xisO h35 a0 0).bind fun _ => xclV (f_K_makeReady z [.ref a0, .ref a30] h35) fun h36 =>
      B_K_receive_177 z h36
    else
      xclV (f_K_beginAsking z [.ref a30, .ref a23] h33) fun h37 =>
      B_K_receive_177 z h37
theorem E_K_receive_97 (z : xzs) (a0 : Nat) (xv2 : Int32) (rv3 : Option Nat) (rv4 : Option Nat) (rv5 : Option Nat) (xs0 : Int32) (h : xH) : xle (D_K_receive_97 z a0 xv2 rv3 rv4 rv5 xs0 h) (B_K_receive_97 z a0 xv2 rv3 rv4 rv5 xs0 h) := by
  unfold D_K_receive_97 B_K_receive_97
  refine xle_clV (i := .invokestatic 95) (fo := f_K_needState z [.int xs0] h) (t := []) rfl rfl rfl (fun h22 => ?_)
  refine xle_aldn (k := 3) (r := rv3) rfl rfl rfl ?_
  refine xle_ald (k := 5) (r := rv5) rfl rfl rfl ?_
  refine xle_some (fun r_ => (103, [(0, .ref a0), (2, .int xv2), (3, va_rf r_), (4, va_rf rv4), (5, va_rf rv5)], [va_rf rv5, va_rf r_], h22)) (fun a23 => ?_)
  refine xle_put (v := va_rf rv5) (f := (2, 14, .object "CapKernel$Thing", 1)) rfl rfl rfl ⟨by decide, xfit_obj _ _⟩ (fun h24 => ?_)
  refine xle_next (i := .aload_n 3) (x' := (107, [(0, .ref a0), (2, .int xv2), (3, .ref a23), (4, va_rf rv4), (5, va_rf rv5)], [.ref a23], h24)) rfl rfl rfl ?_
  refine xle_next (i := .iload_n 2) (x' := (108, [(0, .ref a0), (2, .int xv2), (3, .ref a23), (4, va_rf rv4), (5, va_rf rv5)], [.int xv2, .ref a23], h24)) rfl rfl rfl ?_
  refine xle_put (v := .int xv2) (f := (2, 15, .int, 1)) rfl rfl rfl ⟨by decide, rfl, rfl⟩ (fun h25 => ?_)
  refine xle_next (i := .aload_n 0) (x' := (112, [(0, .ref a0), (2, .int xv2), (3, .ref a23), (4, va_rf rv4), (5, va_rf rv5)], [.ref a0], h25)) rfl rfl rfl ?_
  refine xle_ald (k := 4) (r := rv4) rfl rfl rfl ?_
  refine xle_some (fun r_ => (114, [(0, .ref a0), (2, .int xv2), (3, .ref a23), (4, va_rf r_), (5, va_rf rv5)], [va_rf r_, .ref a0], h25)) (fun a26 => ?_)
  refine xle_getR (f := (1, 0, .object "CapKernel$Thing", 0)) rfl rfl rfl (fun r27 => ?_)
  refine xle_isO (i := .invokevirtual 192) (bq := a0) (ci := 0) (fo := (f_K_firstSending z [.ref a0, va_rf r27] h25).bind (xback 117 [(0, .ref a0), (2, .int xv2), (3, .ref a23), (4, .ref a26), (5, va_rf rv5)] [])) rfl rfl rfl (fun hs => ?_)
  refine xle_clR (t := []) rfl rfl hs (fun r29 h28 => ?_)
  refine xle_ast (k := 6) (r := r29) (L' := [(0, .ref a0), (2, .int xv2), (3, .ref a23), (4, .ref a26), (5, va_rf rv5), (6, va_rf r29)]) rfl rfl rfl ?_
  refine xle_ald (k := 6) (r := r29) rfl rfl rfl ?_
  refine xle_case (fun r_ => (124, [(0, .ref a0), (2, .int xv2), (3, .ref a23), (4, .ref a26), (5, va_rf rv5), (6, va_rf r_)], [va_rf r_], h28)) ?_ (fun a30 => ?_)
  · refine xle_next (i := .ifnonnull 16) (x' := (127, [(0, .ref a0), (2, .int xv2), (3, .ref a23), (4, .ref a26), (5, va_rf rv5), (6, .null)], [], h28)) rfl rfl rfl ?_
    refine xle_next (i := .aload_n 0) (x' := (128, [(0, .ref a0), (2, .int xv2), (3, .ref a23), (4, .ref a26), (5, va_rf rv5), (6, .null)], [.ref a0], h28)) rfl rfl rfl ?_
    refine xle_next (i := .aload_n 3) (x' := (129, [(0, .ref a0), (2, .int xv2), (3, .ref a23), (4, .ref a26), (5, va_rf rv5), (6, .null)], [.ref a23, .ref a0], h28)) rfl rfl rfl ?_
    refine xle_next (i := .aload 4) (x' := (131, [(0, .ref a0), (2, .int xv2), (3, .ref a23), (4, .ref a26), (5, va_rf rv5), (6, .null)], [.ref a26, .ref a23, .ref a0], h28)) rfl rfl rfl ?_
    refine xle_getR (f := (1, 0, .object "CapKernel$Thing", 0)) rfl rfl rfl (fun r31 => ?_)
    refine xle_next (i := .iconst 4) (x' := (135, [(0, .ref a0), (2, .int xv2), (3, .ref a23), (4, .ref a26), (5, va_rf rv5), (6, .null)], [.int (Int32.ofInt 4), va_rf r31, .ref a23, .ref a0], h28)) rfl rfl rfl ?_
    refine xle_isO (i := .invokevirtual 161) (bq := a0) (ci := 0) (fo := (f_K_beginWaiting z [.ref a0, .ref a23, va_rf r31, .int (Int32.ofInt 4)] h28).bind (xback 135 [(0, .ref a0), (2, .int xv2), (3, .ref a23), (4, .ref a26), (5, va_rf rv5), (6, .null)] [])) rfl rfl rfl (fun hs => ?_)
    refine xle_clV (t := []) rfl rfl hs (fun h32 => ?_)
    refine xle_next (i := .iconst 1) (x' := (139, [(0, .ref a0), (2, .int xv2), (3, .ref a23), (4, .ref a26), (5, va_rf rv5), (6, .null)], [.int (Int32.ofInt 1)], h32)) rfl rfl rfl ?_
    exact xle_end (i := .ireturn) rfl rfl rfl
  · refine xle_next (i := .ifnonnull 16) (x' := (140, [(0, .ref a0), (2, .int xv2), (3, .ref a23), (4, .ref a26), (5, va_rf rv5), (6, .ref a30)], [], h28)) rfl rfl rfl ?_
    refine xle_next (i := .aload_n 0) (x' := (141, [(0, .ref a0), (2, .int xv2), (3, .ref a23), (4, .ref a26), (5, va_rf rv5), (6, .ref a30)], [.ref a0], h28)) rfl rfl rfl ?_
    refine xle_next (i := .aload 6) (x' := (143, [(0, .ref a0), (2, .int xv2), (3, .ref a23), (4, .ref a26), (5, va_rf rv5), (6, .ref a30)], [.ref a30, .ref a0], h28)) rfl rfl rfl ?_
    refine xle_next (i := .aload_n 3) (x' := (144, [(0, .ref a0), (2, .int xv2), (3, .ref a23), (4, .ref a26), (5, va_rf rv5), (6, .ref a30)], [.ref a23, .ref a30, .ref a0], h28)) rfl rfl rfl ?_
    refine xle_isO (i := .invokevirtual 165) (bq := a0) (ci := 0) (fo := (f_K_deliver z [.ref a0, .ref a30, .ref a23] h28).bind (xback 144 [(0, .ref a0), (2, .int xv2), (3, .ref a23), (4, .ref a26), (5, va_rf rv5), (6, .ref a30)] [])) rfl rfl rfl (fun hs => ?_)
    refine xle_clV (t := []) rfl rfl hs (fun h33 => ?_)
    refine xle_next (i := .aload 6) (x' := (149, [(0, .ref a0), (2, .int xv2), (3, .ref a23), (4, .ref a26), (5, va_rf rv5), (6, .ref a30)], [.ref a30], h33)) rfl rfl rfl ?_
    refine xle_getI (f := (2, 2, .int, 1)) rfl rfl rfl (fun x34 => ?_)
    refine xle_next (i := .iconst 2) (x' := (153, [(0, .ref a0), (2, .int xv2), (3, .ref a23), (4, .ref a26), (5, va_rf rv5), (6, .ref a30)], [.int (Int32.ofInt 2), .int x34], h33)) rfl rfl rfl ?_
    refine xle_icmp (cd := .ne) (q := 165) rfl rfl rfl xc_ne (fun _ => ?_) (fun _ => ?_)
    · refine xle_next (i := .aload 6) (x' := (167, [(0, .ref a0), (2, .int xv2), (3, .ref a23), (4, .ref a26), (5, va_rf rv5), (6, .ref a30)], [.ref a30], h33)) rfl rfl rfl ?_
      refine xle_next (i := .iconst 0) (x' := (168, [(0, .ref a0), (2, .int xv2), (3, .ref a23), (4, .ref a26), (5, va_rf rv5), (6, .ref a30)], [.int (Int32.ofInt 0), .ref a30], h33)) rfl rfl rfl ?_
      refine xle_put (v := .int (Int32.ofInt 0)) (f := (2, 3, .int, 1)) rfl rfl rfl ⟨by decide, rfl, rfl⟩ (fun h35 => ?_)
      refine xle_next (i := .aload_n 0) (x' := (172, [(0, .ref a0), (2, .int xv2), (3, .ref a23), (4, .ref a26), (5, va_rf rv5), (6, .ref a30)], [.ref a0], h35)) rfl rfl rfl ?_
      refine xle_next (i := .aload 6) (x' := (174, [(0, .ref a0), (2, .int xv2), (3, .ref a23), (4, .ref a26), (5, va_rf rv5), (6, .ref a30)], [.ref a30, .ref a0], h35)) rfl rfl rfl ?_
      refine xle_isO (i := .invokevirtual 169) (bq := a0) (ci := 0) (fo := (f_K_makeReady z [.ref a0, .ref a30] h35).bind (xback 174 [(0, .ref a0), (2, .int xv2), (3, .ref a23), (4, .ref a26), (5, va_rf rv5), (6, .ref a30)] [])) rfl rfl rfl (fun hs => ?_)
      refine xle_clV (t := []) rfl rfl hs (fun h36 => ?_)
      exact xle_jump rfl
    · refine xle_next (i := .aload 6) (x' := (158, [(0, .ref a0), (2, .int xv2), (3, .ref a23), (4, .ref a26), (5, va_rf rv5), (6, .ref a30)], [.ref a30], h33)) rfl rfl rfl ?_
      refine xle_next (i := .aload_n 3) (x' := (159, [(0, .ref a0), (2, .int xv2), (3, .ref a23), (4, .ref a26), (5, va_rf rv5), (6, .ref a30)], [.ref a23, .ref a30], h33)) rfl rfl rfl ?_
      refine xle_clV (i := .invokestatic 183) (fo := f_K_beginAsking z [.ref a30, .ref a23] h33) (t := []) rfl rfl rfl (fun h37 => ?_)
      refine xle_next (i := .goto 15) (x' := (177, [(0, .ref a0), (2, .int xv2), (3, .ref a23), (4, .ref a26), (5, va_rf rv5), (6, .ref a30)], [], h37)) rfl rfl rfl ?_
      exact xle_jump rfl
noncomputable def D_K_receive_177 (z : xzs)  (h : xH) : Option xR :=
  some (.inl (some (.int (Int32.ofInt 0))), h)
theorem E_K_receive_177 (z : xzs)  (h : xH) : xle (D_K_receive_177 z  h) (B_K_receive_177 z  h) := by
  unfold D_K_receive_177 B_K_receive_177
  refine xle_next (i := .iconst 0) (x' := (178, [], [.int (Int32.ofInt 0)], h)) rfl rfl rfl ?_
  exact xle_end (i := .ireturn) rfl rfl rfl
noncomputable def B_K_answer_33 (z : xzs)  (h : xH) : Option xR := xev (K_K_answer z) (33, [], [], h)
noncomputable def D_K_answer_0 (z : xzs) (a0 : Nat) (p1 : Int32) (h : xH) : Option xR :=
  (xisO h a0 0).bind fun _ => xclR (f_K_actor z [.ref a0] h) fun r2 h1 =>
  r2.bind fun a3 =>
  (rdR h1 a3 2 17).bind fun r4 =>
  xcase r4 (
    B_K_answer_33 z h1
  ) fun a5 =>
    (rdI h1 a5 2 2).bind fun x6 =>
    if ¬ x6 = (Int32.ofInt 3) then
      B_K_answer_33 z h1
    else
      (rdI h1 a5 2 16).bind fun x7 =>
      (rdI h1 a3 2 18).bind fun x8 =>
      if x7 = x8 then
        (xisO h1 a5 2).bind fun _ => xclV (f_L_hear z [.ref a5, .int p1, .int (Int32.ofInt 0), .int (Int32.ofInt (-1))] h1) fun h9 =>
        (xisO h9 a0 0).bind fun _ => xclV (f_K_makeReady z [.ref a0, .ref a5] h9) fun h10 =>
        (rdI h10 a5 2 0).bind fun x11 =>
        some (.inl (some (.int x11)), h10)
      else
        B_K_answer_33 z h1
theorem E_K_answer (z : xzs) (a0 : Nat) (p1 : Int32) (h : xH) : xle (D_K_answer_0 z a0 p1 h) (xfun (K_K_answer z) 4 [.ref a0, .int p1] h) := by
  unfold D_K_answer_0
  refine xle_entry (Nat.le_of_ble_eq_true rfl) (xal_c (xca_a _) (xal_c (xca_i _) (rfl))) ?_
  show xle _ (xev (K_K_answer z) (0, [(0, .ref a0), (1, .int p1)], [], h))
  refine xle_next (i := .aload_n 0) (x' := (1, [(0, .ref a0), (1, .int p1)], [.ref a0], h)) rfl rfl rfl ?_
  refine xle_isO (i := .invokevirtual 64) (bq := a0) (ci := 0) (fo := (f_K_actor z [.ref a0] h).bind (xback 1 [(0, .ref a0), (1, .int p1)] [])) rfl rfl rfl (fun hs => ?_)
  refine xle_clR (t := []) rfl rfl hs (fun r2 h1 => ?_)
  refine xle_astn (k := 2) (r := r2) (L' := [(0, .ref a0), (1, .int p1), (2, va_rf r2)]) rfl rfl rfl ?_
  refine xle_aldn (k := 2) (r := r2) rfl rfl rfl ?_
  refine xle_some (fun r_ => (6, [(0, .ref a0), (1, .int p1), (2, va_rf r_)], [va_rf r_], h1)) (fun a3 => ?_)
  refine xle_getR (f := (2, 17, .object "CapKernel$Client", 1)) rfl rfl rfl (fun r4 => ?_)
  refine xle_astn (k := 3) (r := r4) (L' := [(0, .ref a0), (1, .int p1), (2, .ref a3), (3, va_rf r4)]) rfl rfl rfl ?_
  refine xle_aldn (k := 3) (r := r4) rfl rfl rfl ?_
  refine xle_case (fun r_ => (11, [(0, .ref a0), (1, .int p1), (2, .ref a3), (3, va_rf r_)], [va_rf r_], h1)) ?_ (fun a5 => ?_)
  · refine xle_next (i := .ifnull 22) (x' := (33, [(0, .ref a0), (1, .int p1), (2, .ref a3), (3, .null)], [], h1)) rfl rfl rfl ?_
    exact xle_jump rfl
  · refine xle_next (i := .ifnull 22) (x' := (14, [(0, .ref a0), (1, .int p1), (2, .ref a3), (3, .ref a5)], [], h1)) rfl rfl rfl ?_
    refine xle_next (i := .aload_n 3) (x' := (15, [(0, .ref a0), (1, .int p1), (2, .ref a3), (3, .ref a5)], [.ref a5], h1)) rfl rfl rfl ?_
    refine xle_getI (f := (2, 2, .int, 1)) rfl rfl rfl (fun x6 => ?_)
    refine xle_next (i := .iconst 3) (x' := (19, [(0, .ref a0), (1, .int p1), (2, .ref a3), (3, .ref a5)], [.int (Int32.ofInt 3), .int x6], h1)) rfl rfl rfl ?_
    refine xle_icmp (cd := .ne) (q := 33) rfl rfl rfl xc_ne (fun _ => ?_) (fun _ => ?_)
    · exact xle_jump rfl
    · refine xle_next (i := .aload_n 3) (x' := (23, [(0, .ref a0), (1, .int p1), (2, .ref a3), (3, .ref a5)], [.ref a5], h1)) rfl rfl rfl ?_
      refine xle_getI (f := (2, 16, .int, 1)) rfl rfl rfl (fun x7 => ?_)
      refine xle_next (i := .aload_n 2) (x' := (27, [(0, .ref a0), (1, .int p1), (2, .ref a3), (3, .ref a5)], [.ref a3, .int x7], h1)) rfl rfl rfl ?_
      refine xle_getI (f := (2, 18, .int, 1)) rfl rfl rfl (fun x8 => ?_)
      refine xle_icmp (cd := .eq) (q := 41) rfl rfl rfl xc_eq (fun _ => ?_) (fun _ => ?_)
      · refine xle_next (i := .aload_n 3) (x' := (42, [(0, .ref a0), (1, .int p1), (2, .ref a3), (3, .ref a5)], [.ref a5], h1)) rfl rfl rfl ?_
        refine xle_next (i := .iload_n 1) (x' := (43, [(0, .ref a0), (1, .int p1), (2, .ref a3), (3, .ref a5)], [.int p1, .ref a5], h1)) rfl rfl rfl ?_
        refine xle_next (i := .iconst 0) (x' := (44, [(0, .ref a0), (1, .int p1), (2, .ref a3), (3, .ref a5)], [.int (Int32.ofInt 0), .int p1, .ref a5], h1)) rfl rfl rfl ?_
        refine xle_next (i := .iconst (-1)) (x' := (45, [(0, .ref a0), (1, .int p1), (2, .ref a3), (3, .ref a5)], [.int (Int32.ofInt (-1)), .int (Int32.ofInt 0), .int p1, .ref a5], h1)) rfl rfl rfl ?_
        refine xle_isO (i := .invokevirtual 177) (bq := a5) (ci := 2) (fo := (f_L_hear z [.ref a5, .int p1, .int (Int32.ofInt 0), .int (Int32.ofInt (-1))] h1).bind (xback 45 [(0, .ref a0), (1, .int p1), (2, .ref a3), (3, .ref a5)] [])) rfl rfl rfl (fun hs => ?_)
        refine xle_clV (t := []) rfl rfl hs (fun h9 => ?_)
        refine xle_next (i := .aload_n 0) (x' := (49, [(0, .ref a0), (1, .int p1), (2, .ref a3), (3, .ref a5)], [.ref a0], h9)) rfl rfl rfl ?_
        refine xle_next (i := .aload_n 3) (x' := (50, [(0, .ref a0), (1, .int p1), (2, .ref a3), (3, .ref a5)], [.ref a5, .ref a0], h9)) rfl rfl rfl ?_
        refine xle_isO (i := .invokevirtual 169) (bq := a0) (ci := 0) (fo := (f_K_makeReady z [.ref a0, .ref a5] h9).bind (xback 50 [(0, .ref a0), (1, .int p1), (2, .ref a3), (3, .ref a5)] [])) rfl rfl rfl (fun hs => ?_)
        refine xle_clV (t := []) rfl rfl hs (fun h10 => ?_)
        refine xle_next (i := .aload_n 3) (x' := (54, [(0, .ref a0), (1, .int p1), (2, .ref a3), (3, .ref a5)], [.ref a5], h10)) rfl rfl rfl ?_
        refine xle_getI (f := (2, 0, .int, 0)) rfl rfl rfl (fun x11 => ?_)
        exact xle_end (i := .ireturn) rfl rfl rfl
      · exact xle_jump rfl
noncomputable def D_K_answer_33 (z : xzs)  (h : xH) : Option xR :=
  xlet (xn h) (xpush h 6 (.inr (11, [.null, .null, .int 0, .null, .null, .null]))) fun a12 h13 =>
  xclC (f_X_state z [.ref a12] h13) fun h14 =>
  some (.inr a12, h14)
theorem E_K_answer_33 (z : xzs)  (h : xH) : xle (D_K_answer_33 z  h) (B_K_answer_33 z  h) := by
  unfold D_K_answer_33 B_K_answer_33
  refine xle_new (i := .new 208) (pc' := 36) (h' := xpush h 6 (.inr (11, [.null, .null, .int 0, .null, .null, .null]))) rfl rfl rfl (fun a12 h13 => ?_)
  refine xle_next (i := .dup) (x' := (37, [], [.ref a12, .ref a12], h13)) rfl rfl rfl ?_
  refine xle_clC (i := .invokespecial 210) (fo := f_X_state z [.ref a12] h13) (t := [.ref a12]) rfl rfl rfl (fun h14 => ?_)
  exact xle_end (i := .athrow) rfl rfl rfl
noncomputable def D_K_takeBits_0 (z : xzs) (p0 : Option Nat) (p1 : Option Nat) (h : xH) : Option xR :=
  p1.bind fun a1 =>
  (rdI h a1 5 6).bind fun x2 =>
  p0.bind fun a3 =>
  (xisO h a3 2).bind fun _ => xclV (f_L_hear z [.ref a3, .int x2, .int (Int32.ofInt 0), .int (Int32.ofInt (-1))] h) fun h4 =>
  (xwr h4 a1 5 6 (.int (Int32.ofInt 0))).bind fun h5 =>
  some (.inl none, h5)
theorem E_K_takeBits (z : xzs) (p0 : Option Nat) (p1 : Option Nat) (h : xH) : xle (D_K_takeBits_0 z p0 p1 h) (xfun (K_K_takeBits z) 2 [va_rf p0, va_rf p1] h) := by
  unfold D_K_takeBits_0
  refine xle_entry (Nat.le_of_ble_eq_true rfl) (xal_c (xca_r _) (xal_c (xca_r _) (rfl))) ?_
  show xle _ (xev (K_K_takeBits z) (0, [(0, va_rf p0), (1, va_rf p1)], [], h))
  refine xle_aldn (k := 0) (r := p0) rfl rfl rfl ?_
  refine xle_aldn (k := 1) (r := p1) rfl rfl rfl ?_
  refine xle_some (fun r_ => (2, [(0, va_rf p0), (1, va_rf r_)], [va_rf r_, va_rf p0], h)) (fun a1 => ?_)
  refine xle_getI (f := (5, 6, .int, 1)) rfl rfl rfl (fun x2 => ?_)
  refine xle_next (i := .iconst 0) (x' := (6, [(0, va_rf p0), (1, .ref a1)], [.int (Int32.ofInt 0), .int x2, va_rf p0], h)) rfl rfl rfl ?_
  refine xle_next (i := .iconst (-1)) (x' := (7, [(0, va_rf p0), (1, .ref a1)], [.int (Int32.ofInt (-1)), .int (Int32.ofInt 0), .int x2, va_rf p0], h)) rfl rfl rfl ?_
  refine xle_some (fun r_ => (7, [(0, va_rf r_), (1, .ref a1)], [.int (Int32.ofInt (-1)), .int (Int32.ofInt 0), .int x2, va_rf r_], h)) (fun a3 => ?_)
  refine xle_isO (i := .invokevirtual 177) (bq := a3) (ci := 2) (fo := (f_L_hear z [.ref a3, .int x2, .int (Int32.ofInt 0), .int (Int32.ofInt (-1))] h).bind (xback 7 [(0, .ref a3), (1, .ref a1)] [])) rfl rfl rfl (fun hs => ?_)
  refine xle_clV (t := []) rfl rfl hs (fun h4 => ?_)
  refine xle_next (i := .aload_n 1) (x' := (11, [(0, .ref a3), (1, .ref a1)], [.ref a1], h4)) rfl rfl rfl ?_
  refine xle_next (i := .iconst 0) (x' := (12, [(0, .ref a3), (1, .ref a1)], [.int (Int32.ofInt 0), .ref a1], h4)) rfl rfl rfl ?_
  refine xle_put (v := .int (Int32.ofInt 0)) (f := (5, 6, .int, 1)) rfl rfl rfl ⟨by decide, rfl, rfl⟩ (fun h5 => ?_)
  exact xle_end (i := .return_) rfl rfl rfl
noncomputable def B_K_howManyAt_4 (z : xzs) (a0 : Nat) (rv1 : Option Nat) (xv2 : Int32) (xv3 : Int32) (h : xH) : Option xR := xev (K_K_howManyAt z) (4, [(0, .ref a0), (1, va_rf rv1), (2, .int xv2), (3, .int xv3)], [], h)
noncomputable def B_K_howManyAt_29 (z : xzs) (a0 : Nat) (rv1 : Option Nat) (xv2 : Int32) (xv3 : Int32) (h : xH) : Option xR := xev (K_K_howManyAt z) (29, [(0, .ref a0), (1, va_rf rv1), (2, .int xv2), (3, .int xv3)], [], h)
noncomputable def D_K_howManyAt_0 (z : xzs) (a0 : Nat) (p1 : Option Nat) (h : xH) : Option xR :=
  B_K_howManyAt_4 z a0 p1 (Int32.ofInt 0) (Int32.ofInt 0) h
theorem E_K_howManyAt (z : xzs) (a0 : Nat) (p1 : Option Nat) (h : xH) : xle (D_K_howManyAt_0 z a0 p1 h) (xfun (K_K_howManyAt z) 4 [.ref a0, va_rf p1] h) := by
  unfold D_K_howManyAt_0
  refine xle_entry (Nat.le_of_ble_eq_true rfl) (xal_c (xca_a _) (xal_c (xca_r _) (rfl))) ?_
  show xle _ (xev (K_K_howManyAt z) (0, [(0, .ref a0), (1, va_rf p1)], [], h))
  refine xle_next (i := .iconst 0) (x' := (1, [(0, .ref a0), (1, va_rf p1)], [.int (Int32.ofInt 0)], h)) rfl rfl rfl ?_
  refine xle_next (i := .istore_n 2) (x' := (2, [(0, .ref a0), (1, va_rf p1), (2, .int (Int32.ofInt 0))], [], h)) rfl rfl rfl ?_
  refine xle_next (i := .iconst 0) (x' := (3, [(0, .ref a0), (1, va_rf p1), (2, .int (Int32.ofInt 0))], [.int (Int32.ofInt 0)], h)) rfl rfl rfl ?_
  refine xle_next (i := .istore_n 3) (x' := (4, [(0, .ref a0), (1, va_rf p1), (2, .int (Int32.ofInt 0)), (3, .int (Int32.ofInt 0))], [], h)) rfl rfl rfl ?_
  exact xle_jump rfl
noncomputable def D_K_howManyAt_4 (z : xzs) (a0 : Nat) (rv1 : Option Nat) (xv2 : Int32) (xv3 : Int32) (h : xH) : Option xR :=
  (rdR h a0 0 0).bind fun r1 =>
  r1.bind fun a2 =>
  (xalen h a2).bind fun n3 =>
  if (Int32.ofNat n3) ≤ xv3 then
    some (.inl (some (.int xv2)), h)
  else
    (rdR h a0 0 0).bind fun r4 =>
    r4.bind fun a5 =>
    (rdQ h a5 xv3).bind fun r6 =>
    r6.bind fun a7 =>
    (rdR h a7 2 10).bind fun r8 =>
    if r8 = rv1 then
      B_K_howManyAt_29 z a0 rv1 (xv2 + Int32.ofInt 1) xv3 h
    else
      B_K_howManyAt_29 z a0 rv1 xv2 xv3 h
theorem E_K_howManyAt_4 (z : xzs) (a0 : Nat) (rv1 : Option Nat) (xv2 : Int32) (xv3 : Int32) (h : xH) : xle (D_K_howManyAt_4 z a0 rv1 xv2 xv3 h) (B_K_howManyAt_4 z a0 rv1 xv2 xv3 h) := by
  unfold D_K_howManyAt_4 B_K_howManyAt_4
  refine xle_next (i := .iload_n 3) (x' := (5, [(0, .ref a0), (1, va_rf rv1), (2, .int xv2), (3, .int xv3)], [.int xv3], h)) rfl rfl rfl ?_
  refine xle_next (i := .aload_n 0) (x' := (6, [(0, .ref a0), (1, va_rf rv1), (2, .int xv2), (3, .int xv3)], [.ref a0, .int xv3], h)) rfl rfl rfl ?_
  refine xle_getR (f := (0, 0, .array (.object "CapKernel$Client"), 0)) rfl rfl rfl (fun r1 => ?_)
  refine xle_some (fun r_ => (9, [(0, .ref a0), (1, va_rf rv1), (2, .int xv2), (3, .int xv3)], [va_rf r_, .int xv3], h)) (fun a2 => ?_)
  refine xle_alen rfl rfl (fun n3 => ?_)
  refine xle_icmp (cd := .ge) (q := 35) rfl rfl rfl xc_ge (fun _ => ?_) (fun _ => ?_)
  · refine xle_next (i := .iload_n 2) (x' := (36, [(0, .ref a0), (1, va_rf rv1), (2, .int xv2), (3, .int xv3)], [.int xv2], h)) rfl rfl rfl ?_
    exact xle_end (i := .ireturn) rfl rfl rfl
  · refine xle_next (i := .aload_n 0) (x' := (14, [(0, .ref a0), (1, va_rf rv1), (2, .int xv2), (3, .int xv3)], [.ref a0], h)) rfl rfl rfl ?_
    refine xle_getR (f := (0, 0, .array (.object "CapKernel$Client"), 0)) rfl rfl rfl (fun r4 => ?_)
    refine xle_next (i := .iload_n 3) (x' := (18, [(0, .ref a0), (1, va_rf rv1), (2, .int xv2), (3, .int xv3)], [.int xv3, va_rf r4], h)) rfl rfl rfl ?_
    refine xle_some (fun r_ => (18, [(0, .ref a0), (1, va_rf rv1), (2, .int xv2), (3, .int xv3)], [.int xv3, va_rf r_], h)) (fun a5 => ?_)
    refine xle_aald rfl rfl (fun r6 => ?_)
    refine xle_some (fun r_ => (19, [(0, .ref a0), (1, va_rf rv1), (2, .int xv2), (3, .int xv3)], [va_rf r_], h)) (fun a7 => ?_)
    refine xle_getR (f := (2, 10, .object "CapKernel$Thing", 1)) rfl rfl rfl (fun r8 => ?_)
    refine xle_aldn (k := 1) (r := rv1) rfl rfl rfl ?_
    refine xle_ane (x := r8) (y := rv1) (q := 29) rfl rfl rfl ?_ ?_
    · refine xle_next (i := .iinc 2 1) (x' := (29, [(0, .ref a0), (1, va_rf rv1), (2, .int (xv2 + Int32.ofInt 1)), (3, .int xv3)], [], h)) rfl rfl rfl ?_
      exact xle_jump rfl
    · exact xle_jump rfl
noncomputable def D_K_howManyAt_29 (z : xzs) (a0 : Nat) (rv1 : Option Nat) (xv2 : Int32) (xv3 : Int32) (h : xH) : Option xR :=
  B_K_howManyAt_4 z a0 rv1 xv2 (xv3 + Int32.ofInt 1) h
theorem E_K_howManyAt_29 (z : xzs) (a0 : Nat) (rv1 : Option Nat) (xv2 : Int32) (xv3 : Int32) (h : xH) : xle (D_K_howManyAt_29 z a0 rv1 xv2 xv3 h) (B_K_howManyAt_29 z a0 rv1 xv2 xv3 h) := by
  unfold D_K_howManyAt_29 B_K_howManyAt_29
  refine xle_next (i := .iinc 3 1) (x' := (32, [(0, .ref a0), (1, va_rf rv1), (2, .int xv2), (3, .int (xv3 + Int32.ofInt 1))], [], h)) rfl rfl rfl ?_
  refine xle_next (i := .goto (-28)) (x' := (4, [(0, .ref a0), (1, va_rf rv1), (2, .int xv2), (3, .int (xv3 + Int32.ofInt 1))], [], h)) rfl rfl rfl ?_
  exact xle_jump rfl
noncomputable def B_K_signal_38 (z : xzs) (a0 : Nat) (rv3 : Option Nat) (rv4 : Option Nat) (xs0 : Int32) (h : xH) : Option xR := xev (K_K_signal z) (38, [(0, .ref a0), (3, va_rf rv3), (4, va_rf rv4)], [.int xs0], h)
noncomputable def B_K_signal_67 (z : xzs) (a0 : Nat) (rv4 : Option Nat) (xs0 : Int32) (xs1 : Int32) (rs2 : Option Nat) (h : xH) : Option xR := xev (K_K_signal z) (67, [(0, .ref a0), (4, va_rf rv4)], [.int xs0, .int xs1, va_rf rs2], h)
noncomputable def B_K_signal_97 (z : xzs) (a0 : Nat) (rv4 : Option Nat) (h : xH) : Option xR := xev (K_K_signal z) (97, [(0, .ref a0), (4, va_rf rv4)], [], h)
noncomputable def D_K_signal_0 (z : xzs) (a0 : Nat) (p1 : Int32) (h : xH) : Option xR :=
  (xisO h a0 0).bind fun _ => xclR (f_K_actor z [.ref a0] h) fun r2 h1 =>
  xclI (f_K_isAddress z [.int p1] h1) fun x4 h3 =>
  xclV (f_K_needNumbers z [.int x4] h3) fun h5 =>
  xclR (f_K_capabilityAt z [va_rf r2, .int p1] h5) fun r7 h6 =>
  r7.bind fun a8 =>
  (rdR h6 a8 1 0).bind fun r9 =>
  r9.bind fun a10 =>
  (rdI h6 a10 5 0).bind fun x11 =>
  if ¬ x11 = (Int32.ofInt 2) then
    B_K_signal_38 z a0 (some a8) (some a10) (Int32.ofInt 0) h6
  else
    B_K_signal_38 z a0 (some a8) (some a10) (Int32.ofInt 1) h6
theorem E_K_signal (z : xzs) (a0 : Nat) (p1 : Int32) (h : xH) : xle (D_K_signal_0 z a0 p1 h) (xfun (K_K_signal z) 6 [.ref a0, .int p1] h) := by
  unfold D_K_signal_0
  refine xle_entry (Nat.le_of_ble_eq_true rfl) (xal_c (xca_a _) (xal_c (xca_i _) (rfl))) ?_
  show xle _ (xev (K_K_signal z) (0, [(0, .ref a0), (1, .int p1)], [], h))
  refine xle_next (i := .aload_n 0) (x' := (1, [(0, .ref a0), (1, .int p1)], [.ref a0], h)) rfl rfl rfl ?_
  refine xle_isO (i := .invokevirtual 64) (bq := a0) (ci := 0) (fo := (f_K_actor z [.ref a0] h).bind (xback 1 [(0, .ref a0), (1, .int p1)] [])) rfl rfl rfl (fun hs => ?_)
  refine xle_clR (t := []) rfl rfl hs (fun r2 h1 => ?_)
  refine xle_astn (k := 2) (r := r2) (L' := [(0, .ref a0), (1, .int p1), (2, va_rf r2)]) rfl rfl rfl ?_
  refine xle_next (i := .iload_n 1) (x' := (6, [(0, .ref a0), (1, .int p1), (2, va_rf r2)], [.int p1], h1)) rfl rfl rfl ?_
  refine xle_clI (i := .invokestatic 68) (fo := f_K_isAddress z [.int p1] h1) (t := []) rfl rfl rfl (fun x4 h3 => ?_)
  refine xle_clV (i := .invokestatic 76) (fo := f_K_needNumbers z [.int x4] h3) (t := []) rfl rfl rfl (fun h5 => ?_)
  refine xle_aldn (k := 2) (r := r2) rfl rfl rfl ?_
  refine xle_next (i := .iload_n 1) (x' := (14, [(0, .ref a0), (1, .int p1), (2, va_rf r2)], [.int p1, va_rf r2], h5)) rfl rfl rfl ?_
  refine xle_clR (i := .invokestatic 80) (fo := f_K_capabilityAt z [va_rf r2, .int p1] h5) (t := []) rfl rfl rfl (fun r7 h6 => ?_)
  refine xle_astn (k := 3) (r := r7) (L' := [(0, .ref a0), (1, .int p1), (2, va_rf r2), (3, va_rf r7)]) rfl rfl rfl ?_
  refine xle_aldn (k := 3) (r := r7) rfl rfl rfl ?_
  refine xle_some (fun r_ => (19, [(0, .ref a0), (1, .int p1), (2, va_rf r2), (3, va_rf r_)], [va_rf r_], h6)) (fun a8 => ?_)
  refine xle_getR (f := (1, 0, .object "CapKernel$Thing", 0)) rfl rfl rfl (fun r9 => ?_)
  refine xle_ast (k := 4) (r := r9) (L' := [(0, .ref a0), (1, .int p1), (2, va_rf r2), (3, .ref a8), (4, va_rf r9)]) rfl rfl rfl ?_
  refine xle_ald (k := 4) (r := r9) rfl rfl rfl ?_
  refine xle_some (fun r_ => (26, [(0, .ref a0), (1, .int p1), (2, va_rf r2), (3, .ref a8), (4, va_rf r_)], [va_rf r_], h6)) (fun a10 => ?_)
  refine xle_getI (f := (5, 0, .int, 0)) rfl rfl rfl (fun x11 => ?_)
  refine xle_next (i := .iconst 2) (x' := (30, [(0, .ref a0), (1, .int p1), (2, va_rf r2), (3, .ref a8), (4, .ref a10)], [.int (Int32.ofInt 2), .int x11], h6)) rfl rfl rfl ?_
  refine xle_icmp (cd := .ne) (q := 37) rfl rfl rfl xc_ne (fun _ => ?_) (fun _ => ?_)
  · refine xle_next (i := .iconst 0) (x' := (38, [(0, .ref a0), (1, .int p1), (2, va_rf r2), (3, .ref a8), (4, .ref a10)], [.int (Int32.ofInt 0)], h6)) rfl rfl rfl ?_
    exact xle_jump rfl
  · refine xle_next (i := .iconst 1) (x' := (34, [(0, .ref a0), (1, .int p1), (2, va_rf r2), (3, .ref a8), (4, .ref a10)], [.int (Int32.ofInt 1)], h6)) rfl rfl rfl ?_
    refine xle_next (i := .goto 4) (x' := (38, [(0, .ref a0), (1, .int p1), (2, va_rf r2), (3, .ref a8), (4, .ref a10)], [.int (Int32.ofInt 1)], h6)) rfl rfl rfl ?_
    exact xle_jump rfl
noncomputable def D_K_signal_38 (z : xzs) (a0 : Nat) (rv3 : Option Nat) (rv4 : Option Nat) (xs0 : Int32) (h : xH) : Option xR :=
  xclV (f_K_needKind z [.int xs0] h) fun h12 =>
  xclV (f_K_needRights z [va_rf rv3, .int (Int32.ofInt 2)] h12) fun h13 =>
  rv4.bind fun a14 =>
  (rdI h13 a14 5 6).bind fun x15 =>
  rv3.bind fun a16 =>
  (rdI h13 a16 1 2).bind fun x17 =>
  if ¬ x17 = 0 then
    (rdI h13 a16 1 2).bind fun x18 =>
    B_K_signal_67 z a0 (some a14) x18 x15 (some a14) h13
  else
    B_K_signal_67 z a0 (some a14) (Int32.ofInt 1) x15 (some a14) h13
theorem E_K_signal_38 (z : xzs) (a0 : Nat) (rv3 : Option Nat) (rv4 : Option Nat) (xs0 : Int32) (h : xH) : xle (D_K_signal_38 z a0 rv3 rv4 xs0 h) (B_K_signal_38 z a0 rv3 rv4 xs0 h) := by
  unfold D_K_signal_38 B_K_signal_38
  refine xle_clV (i := .invokestatic 111) (fo := f_K_needKind z [.int xs0] h) (t := []) rfl rfl rfl (fun h12 => ?_)
  refine xle_aldn (k := 3) (r := rv3) rfl rfl rfl ?_
  refine xle_next (i := .iconst 2) (x' := (43, [(0, .ref a0), (3, va_rf rv3), (4, va_rf rv4)], [.int (Int32.ofInt 2), va_rf rv3], h12)) rfl rfl rfl ?_
  refine xle_clV (i := .invokestatic 135) (fo := f_K_needRights z [va_rf rv3, .int (Int32.ofInt 2)] h12) (t := []) rfl rfl rfl (fun h13 => ?_)
  refine xle_ald (k := 4) (r := rv4) rfl rfl rfl ?_
  refine xle_dupq (r := rv4) rfl rfl ?_
  refine xle_some (fun r_ => (49, [(0, .ref a0), (3, va_rf rv3), (4, va_rf r_)], [va_rf r_, va_rf r_], h13)) (fun a14 => ?_)
  refine xle_getI (f := (5, 6, .int, 1)) rfl rfl rfl (fun x15 => ?_)
  refine xle_aldn (k := 3) (r := rv3) rfl rfl rfl ?_
  refine xle_some (fun r_ => (53, [(0, .ref a0), (3, va_rf r_), (4, .ref a14)], [va_rf r_, .int x15, .ref a14], h13)) (fun a16 => ?_)
  refine xle_getI (f := (1, 2, .int, 0)) rfl rfl rfl (fun x17 => ?_)
  refine xle_if (cd := .ne) (q := 63) rfl rfl rfl xc_ne (fun _ => ?_) (fun _ => ?_)
  · refine xle_next (i := .aload_n 3) (x' := (64, [(0, .ref a0), (3, .ref a16), (4, .ref a14)], [.ref a16, .int x15, .ref a14], h13)) rfl rfl rfl ?_
    refine xle_getI (f := (1, 2, .int, 0)) rfl rfl rfl (fun x18 => ?_)
    exact xle_jump rfl
  · refine xle_next (i := .iconst 1) (x' := (60, [(0, .ref a0), (3, .ref a16), (4, .ref a14)], [.int (Int32.ofInt 1), .int x15, .ref a14], h13)) rfl rfl rfl ?_
    refine xle_next (i := .goto 7) (x' := (67, [(0, .ref a0), (3, .ref a16), (4, .ref a14)], [.int (Int32.ofInt 1), .int x15, .ref a14], h13)) rfl rfl rfl ?_
    exact xle_jump rfl
noncomputable def D_K_signal_67 (z : xzs) (a0 : Nat) (rv4 : Option Nat) (xs0 : Int32) (xs1 : Int32) (rs2 : Option Nat) (h : xH) : Option xR :=
  rs2.bind fun a19 =>
  (xwr h a19 5 6 (.int (xs1 ||| xs0))).bind fun h20 =>
  (xisO h20 a0 0).bind fun _ => xclR (f_K_firstAt z [.ref a0, va_rf rv4] h20) fun r22 h21 =>
  xcase r22 (
    B_K_signal_97 z a0 rv4 h21
  ) fun a23 =>
    xclV (f_K_takeBits z [.ref a23, va_rf rv4] h21) fun h24 =>
    (xisO h24 a0 0).bind fun _ => xclV (f_K_makeReady z [.ref a0, .ref a23] h24) fun h25 =>
    B_K_signal_97 z a0 rv4 h25
theorem E_K_signal_67 (z : xzs) (a0 : Nat) (rv4 : Option Nat) (xs0 : Int32) (xs1 : Int32) (rs2 : Option Nat) (h : xH) : xle (D_K_signal_67 z a0 rv4 xs0 xs1 rs2 h) (B_K_signal_67 z a0 rv4 xs0 xs1 rs2 h) := by
  unfold D_K_signal_67 B_K_signal_67
  refine xle_next (i := .ior) (x' := (68, [(0, .ref a0), (4, va_rf rv4)], [.int (xs1 ||| xs0), va_rf rs2], h)) rfl rfl rfl ?_
  refine xle_some (fun r_ => (68, [(0, .ref a0), (4, va_rf rv4)], [.int (xs1 ||| xs0), va_rf r_], h)) (fun a19 => ?_)
  refine xle_put (v := .int (xs1 ||| xs0)) (f := (5, 6, .int, 1)) rfl rfl rfl ⟨by decide, rfl, rfl⟩ (fun h20 => ?_)
  refine xle_next (i := .aload_n 0) (x' := (72, [(0, .ref a0), (4, va_rf rv4)], [.ref a0], h20)) rfl rfl rfl ?_
  refine xle_ald (k := 4) (r := rv4) rfl rfl rfl ?_
  refine xle_isO (i := .invokevirtual 214) (bq := a0) (ci := 0) (fo := (f_K_firstAt z [.ref a0, va_rf rv4] h20).bind (xback 74 [(0, .ref a0), (4, va_rf rv4)] [])) rfl rfl rfl (fun hs => ?_)
  refine xle_clR (t := []) rfl rfl hs (fun r22 h21 => ?_)
  refine xle_ast (k := 5) (r := r22) (L' := [(0, .ref a0), (4, va_rf rv4), (5, va_rf r22)]) rfl rfl rfl ?_
  refine xle_ald (k := 5) (r := r22) rfl rfl rfl ?_
  refine xle_case (fun r_ => (81, [(0, .ref a0), (4, va_rf rv4), (5, va_rf r_)], [va_rf r_], h21)) ?_ (fun a23 => ?_)
  · refine xle_next (i := .ifnull 16) (x' := (97, [(0, .ref a0), (4, va_rf rv4), (5, .null)], [], h21)) rfl rfl rfl ?_
    exact xle_jump rfl
  · refine xle_next (i := .ifnull 16) (x' := (84, [(0, .ref a0), (4, va_rf rv4), (5, .ref a23)], [], h21)) rfl rfl rfl ?_
    refine xle_next (i := .aload 5) (x' := (86, [(0, .ref a0), (4, va_rf rv4), (5, .ref a23)], [.ref a23], h21)) rfl rfl rfl ?_
    refine xle_ald (k := 4) (r := rv4) rfl rfl rfl ?_
    refine xle_clV (i := .invokestatic 217) (fo := f_K_takeBits z [.ref a23, va_rf rv4] h21) (t := []) rfl rfl rfl (fun h24 => ?_)
    refine xle_next (i := .aload_n 0) (x' := (92, [(0, .ref a0), (4, va_rf rv4), (5, .ref a23)], [.ref a0], h24)) rfl rfl rfl ?_
    refine xle_next (i := .aload 5) (x' := (94, [(0, .ref a0), (4, va_rf rv4), (5, .ref a23)], [.ref a23, .ref a0], h24)) rfl rfl rfl ?_
    refine xle_isO (i := .invokevirtual 169) (bq := a0) (ci := 0) (fo := (f_K_makeReady z [.ref a0, .ref a23] h24).bind (xback 94 [(0, .ref a0), (4, va_rf rv4), (5, .ref a23)] [])) rfl rfl rfl (fun hs => ?_)
    refine xle_clV (t := []) rfl rfl hs (fun h25 => ?_)
    exact xle_jump rfl
noncomputable def D_K_signal_97 (z : xzs) (a0 : Nat) (rv4 : Option Nat) (h : xH) : Option xR :=
  (xisO h a0 0).bind fun _ => xclI (f_K_howManyAt z [.ref a0, va_rf rv4] h) fun x27 h26 =>
  some (.inl (some (.int x27)), h26)
theorem E_K_signal_97 (z : xzs) (a0 : Nat) (rv4 : Option Nat) (h : xH) : xle (D_K_signal_97 z a0 rv4 h) (B_K_signal_97 z a0 rv4 h) := by
  unfold D_K_signal_97 B_K_signal_97
  refine xle_next (i := .aload_n 0) (x' := (98, [(0, .ref a0), (4, va_rf rv4)], [.ref a0], h)) rfl rfl rfl ?_
  refine xle_ald (k := 4) (r := rv4) rfl rfl rfl ?_
  refine xle_isO (i := .invokevirtual 221) (bq := a0) (ci := 0) (fo := (f_K_howManyAt z [.ref a0, va_rf rv4] h).bind (xback 100 [(0, .ref a0), (4, va_rf rv4)] [])) rfl rfl rfl (fun hs => ?_)
  refine xle_clI (t := []) rfl rfl hs (fun x27 h26 => ?_)
  exact xle_end (i := .ireturn) rfl rfl rfl
noncomputable def B_K_await_38 (z : xzs) (a0 : Nat) (rv2 : Option Nat) (rv3 : Option Nat) (rv4 : Option Nat) (xs0 : Int32) (h : xH) : Option xR := xev (K_K_await z) (38, [(0, .ref a0), (2, va_rf rv2), (3, va_rf rv3), (4, va_rf rv4)], [.int xs0], h)
noncomputable def D_K_await_0 (z : xzs) (a0 : Nat) (p1 : Int32) (h : xH) : Option xR :=
  (xisO h a0 0).bind fun _ => xclR (f_K_actor z [.ref a0] h) fun r2 h1 =>
  xclI (f_K_isAddress z [.int p1] h1) fun x4 h3 =>
  xclV (f_K_needNumbers z [.int x4] h3) fun h5 =>
  xclR (f_K_capabilityAt z [va_rf r2, .int p1] h5) fun r7 h6 =>
  r7.bind fun a8 =>
  (rdR h6 a8 1 0).bind fun r9 =>
  r9.bind fun a10 =>
  (rdI h6 a10 5 0).bind fun x11 =>
  if ¬ x11 = (Int32.ofInt 2) then
    B_K_await_38 z a0 r2 (some a8) (some a10) (Int32.ofInt 0) h6
  else
    B_K_await_38 z a0 r2 (some a8) (some a10) (Int32.ofInt 1) h6
theorem E_K_await (z : xzs) (a0 : Nat) (p1 : Int32) (h : xH) : xle (D_K_await_0 z a0 p1 h) (xfun (K_K_await z) 5 [.ref a0, .int p1] h) := by
  unfold D_K_await_0
  refine xle_entry (Nat.le_of_ble_eq_true rfl) (xal_c (xca_a _) (xal_c (xca_i _) (rfl))) ?_
  show xle _ (xev (K_K_await z) (0, [(0, .ref a0), (1, .int p1)], [], h))
  refine xle_next (i := .aload_n 0) (x' := (1, [(0, .ref a0), (1, .int p1)], [.ref a0], h)) rfl rfl rfl ?_
  refine xle_isO (i := .invokevirtual 64) (bq := a0) (ci := 0) (fo := (f_K_actor z [.ref a0] h).bind (xback 1 [(0, .ref a0), (1, .int p1)] [])) rfl rfl rfl (fun hs => ?_)
  refine xle_clR (t := []) rfl rfl hs (fun r2 h1 => ?_)
  refine xle_astn (k := 2) (r := r2) (L' := [(0, .ref a0), (1, .int p1), (2, va_rf r2)]) rfl rfl rfl ?_
  refine xle_next (i := .iload_n 1) (x' := (6, [(0, .ref a0), (1, .int p1), (2, va_rf r2)], [.int p1], h1)) rfl rfl rfl ?_
  refine xle_clI (i := .invokestatic 68) (fo := f_K_isAddress z [.int p1] h1) (t := []) rfl rfl rfl (fun x4 h3 => ?_)
  refine xle_clV (i := .invokestatic 76) (fo := f_K_needNumbers z [.int x4] h3) (t := []) rfl rfl rfl (fun h5 => ?_)
  refine xle_aldn (k := 2) (r := r2) rfl rfl rfl ?_
  refine xle_next (i := .iload_n 1) (x' := (14, [(0, .ref a0), (1, .int p1), (2, va_rf r2)], [.int p1, va_rf r2], h5)) rfl rfl rfl ?_
  refine xle_clR (i := .invokestatic 80) (fo := f_K_capabilityAt z [va_rf r2, .int p1] h5) (t := []) rfl rfl rfl (fun r7 h6 => ?_)
  refine xle_astn (k := 3) (r := r7) (L' := [(0, .ref a0), (1, .int p1), (2, va_rf r2), (3, va_rf r7)]) rfl rfl rfl ?_
  refine xle_aldn (k := 3) (r := r7) rfl rfl rfl ?_
  refine xle_some (fun r_ => (19, [(0, .ref a0), (1, .int p1), (2, va_rf r2), (3, va_rf r_)], [va_rf r_], h6)) (fun a8 => ?_)
  refine xle_getR (f := (1, 0, .object "CapKernel$Thing", 0)) rfl rfl rfl (fun r9 => ?_)
  refine xle_ast (k := 4) (r := r9) (L' := [(0, .ref a0), (1, .int p1), (2, va_rf r2), (3, .ref a8), (4, va_rf r9)]) rfl rfl rfl ?_
  refine xle_ald (k := 4) (r := r9) rfl rfl rfl ?_
  refine xle_some (fun r_ => (26, [(0, .ref a0), (1, .int p1), (2, va_rf r2), (3, .ref a8), (4, va_rf r_)], [va_rf r_], h6)) (fun a10 => ?_)
  refine xle_getI (f := (5, 0, .int, 0)) rfl rfl rfl (fun x11 => ?_)
  refine xle_next (i := .iconst 2) (x' := (30, [(0, .ref a0), (1, .int p1), (2, va_rf r2), (3, .ref a8), (4, .ref a10)], [.int (Int32.ofInt 2), .int x11], h6)) rfl rfl rfl ?_
  refine xle_icmp (cd := .ne) (q := 37) rfl rfl rfl xc_ne (fun _ => ?_) (fun _ => ?_)
  · refine xle_next (i := .iconst 0) (x' := (38, [(0, .ref a0), (1, .int p1), (2, va_rf r2), (3, .ref a8), (4, .ref a10)], [.int (Int32.ofInt 0)], h6)) rfl rfl rfl ?_
    exact xle_jump rfl
  · refine xle_next (i := .iconst 1) (x' := (34, [(0, .ref a0), (1, .int p1), (2, va_rf r2), (3, .ref a8), (4, .ref a10)], [.int (Int32.ofInt 1)], h6)) rfl rfl rfl ?_
    refine xle_next (i := .goto 4) (x' := (38, [(0, .ref a0), (1, .int p1), (2, va_rf r2), (3, .ref a8), (4, .ref a10)], [.int (Int32.ofInt 1)], h6)) rfl rfl rfl ?_
    exact xle_jump rfl
noncomputable def D_K_await_38 (z : xzs) (a0 : Nat) (rv2 : Option Nat) (rv3 : Option Nat) (rv4 : Option Nat) (xs0 : Int32) (h : xH) : Option xR :=
  xclV (f_K_needKind z [.int xs0] h) fun h12 =>
  xclV (f_K_needRights z [va_rf rv3, .int (Int32.ofInt 1)] h12) fun h13 =>
  rv4.bind fun a14 =>
  (rdI h13 a14 5 6).bind fun x15 =>
  if ¬ x15 = 0 then
    xclV (f_K_takeBits z [va_rf rv2, .ref a14] h13) fun h16 =>
    some (.inl (some (.int (Int32.ofInt 0))), h16)
  else
    (xisO h13 a0 0).bind fun _ => xclV (f_K_beginWaiting z [.ref a0, va_rf rv2, .ref a14, .int (Int32.ofInt 5)] h13) fun h17 =>
    some (.inl (some (.int (Int32.ofInt 1))), h17)
theorem E_K_await_38 (z : xzs) (a0 : Nat) (rv2 : Option Nat) (rv3 : Option Nat) (rv4 : Option Nat) (xs0 : Int32) (h : xH) : xle (D_K_await_38 z a0 rv2 rv3 rv4 xs0 h) (B_K_await_38 z a0 rv2 rv3 rv4 xs0 h) := by
  unfold D_K_await_38 B_K_await_38
  refine xle_clV (i := .invokestatic 111) (fo := f_K_needKind z [.int xs0] h) (t := []) rfl rfl rfl (fun h12 => ?_)
  refine xle_aldn (k := 3) (r := rv3) rfl rfl rfl ?_
  refine xle_next (i := .iconst 1) (x' := (43, [(0, .ref a0), (2, va_rf rv2), (3, va_rf rv3), (4, va_rf rv4)], [.int (Int32.ofInt 1), va_rf rv3], h12)) rfl rfl rfl ?_
  refine xle_clV (i := .invokestatic 135) (fo := f_K_needRights z [va_rf rv3, .int (Int32.ofInt 1)] h12) (t := []) rfl rfl rfl (fun h13 => ?_)
  refine xle_ald (k := 4) (r := rv4) rfl rfl rfl ?_
  refine xle_some (fun r_ => (48, [(0, .ref a0), (2, va_rf rv2), (3, va_rf rv3), (4, va_rf r_)], [va_rf r_], h13)) (fun a14 => ?_)
  refine xle_getI (f := (5, 6, .int, 1)) rfl rfl rfl (fun x15 => ?_)
  refine xle_if (cd := .ne) (q := 64) rfl rfl rfl xc_ne (fun _ => ?_) (fun _ => ?_)
  · refine xle_aldn (k := 2) (r := rv2) rfl rfl rfl ?_
    refine xle_next (i := .aload 4) (x' := (67, [(0, .ref a0), (2, va_rf rv2), (3, va_rf rv3), (4, .ref a14)], [.ref a14, va_rf rv2], h13)) rfl rfl rfl ?_
    refine xle_clV (i := .invokestatic 217) (fo := f_K_takeBits z [va_rf rv2, .ref a14] h13) (t := []) rfl rfl rfl (fun h16 => ?_)
    refine xle_next (i := .iconst 0) (x' := (71, [(0, .ref a0), (2, va_rf rv2), (3, va_rf rv3), (4, .ref a14)], [.int (Int32.ofInt 0)], h16)) rfl rfl rfl ?_
    exact xle_end (i := .ireturn) rfl rfl rfl
  · refine xle_next (i := .aload_n 0) (x' := (55, [(0, .ref a0), (2, va_rf rv2), (3, va_rf rv3), (4, .ref a14)], [.ref a0], h13)) rfl rfl rfl ?_
    refine xle_aldn (k := 2) (r := rv2) rfl rfl rfl ?_
    refine xle_next (i := .aload 4) (x' := (58, [(0, .ref a0), (2, va_rf rv2), (3, va_rf rv3), (4, .ref a14)], [.ref a14, va_rf rv2, .ref a0], h13)) rfl rfl rfl ?_
    refine xle_next (i := .iconst 5) (x' := (59, [(0, .ref a0), (2, va_rf rv2), (3, va_rf rv3), (4, .ref a14)], [.int (Int32.ofInt 5), .ref a14, va_rf rv2, .ref a0], h13)) rfl rfl rfl ?_
    refine xle_isO (i := .invokevirtual 161) (bq := a0) (ci := 0) (fo := (f_K_beginWaiting z [.ref a0, va_rf rv2, .ref a14, .int (Int32.ofInt 5)] h13).bind (xback 59 [(0, .ref a0), (2, va_rf rv2), (3, va_rf rv3), (4, .ref a14)] [])) rfl rfl rfl (fun hs => ?_)
    refine xle_clV (t := []) rfl rfl hs (fun h17 => ?_)
    refine xle_next (i := .iconst 1) (x' := (63, [(0, .ref a0), (2, va_rf rv2), (3, va_rf rv3), (4, .ref a14)], [.int (Int32.ofInt 1)], h17)) rfl rfl rfl ?_
    exact xle_end (i := .ireturn) rfl rfl rfl
noncomputable def B_K_current_17 (z : xzs) (xs0 : Int32) (h : xH) : Option xR := xev (K_K_current z) (17, [], [.int xs0], h)
noncomputable def D_K_current_0 (z : xzs) (a0 : Nat) (h : xH) : Option xR :=
  (xisO h a0 0).bind fun _ => xclR (f_K_firstInLine z [.ref a0] h) fun r2 h1 =>
  xcase r2 (
    B_K_current_17 z (Int32.ofInt 0) h1
  ) fun a3 =>
    (rdI h1 a3 2 0).bind fun x4 =>
    B_K_current_17 z x4 h1
theorem E_K_current (z : xzs) (a0 : Nat) (h : xH) : xle (D_K_current_0 z a0 h) (xfun (K_K_current z) 2 [.ref a0] h) := by
  unfold D_K_current_0
  refine xle_entry (Nat.le_of_ble_eq_true rfl) (xal_c (xca_a _) (rfl)) ?_
  show xle _ (xev (K_K_current z) (0, [(0, .ref a0)], [], h))
  refine xle_next (i := .aload_n 0) (x' := (1, [(0, .ref a0)], [.ref a0], h)) rfl rfl rfl ?_
  refine xle_isO (i := .invokevirtual 234) (bq := a0) (ci := 0) (fo := (f_K_firstInLine z [.ref a0] h).bind (xback 1 [(0, .ref a0)] [])) rfl rfl rfl (fun hs => ?_)
  refine xle_clR (t := []) rfl rfl hs (fun r2 h1 => ?_)
  refine xle_astn (k := 1) (r := r2) (L' := [(0, .ref a0), (1, va_rf r2)]) rfl rfl rfl ?_
  refine xle_aldn (k := 1) (r := r2) rfl rfl rfl ?_
  refine xle_case (fun r_ => (6, [(0, .ref a0), (1, va_rf r_)], [va_rf r_], h1)) ?_ (fun a3 => ?_)
  · refine xle_next (i := .ifnonnull 7) (x' := (9, [(0, .ref a0), (1, .null)], [], h1)) rfl rfl rfl ?_
    refine xle_next (i := .iconst 0) (x' := (10, [(0, .ref a0), (1, .null)], [.int (Int32.ofInt 0)], h1)) rfl rfl rfl ?_
    refine xle_next (i := .goto 7) (x' := (17, [(0, .ref a0), (1, .null)], [.int (Int32.ofInt 0)], h1)) rfl rfl rfl ?_
    exact xle_jump rfl
  · refine xle_next (i := .ifnonnull 7) (x' := (13, [(0, .ref a0), (1, .ref a3)], [], h1)) rfl rfl rfl ?_
    refine xle_next (i := .aload_n 1) (x' := (14, [(0, .ref a0), (1, .ref a3)], [.ref a3], h1)) rfl rfl rfl ?_
    refine xle_getI (f := (2, 0, .int, 0)) rfl rfl rfl (fun x4 => ?_)
    exact xle_jump rfl
noncomputable def D_K_current_17 (z : xzs) (xs0 : Int32) (h : xH) : Option xR :=
  some (.inl (some (.int xs0)), h)
theorem E_K_current_17 (z : xzs) (xs0 : Int32) (h : xH) : xle (D_K_current_17 z xs0 h) (B_K_current_17 z xs0 h) := by
  unfold D_K_current_17 B_K_current_17
  exact xle_end (i := .ireturn) rfl rfl rfl
noncomputable def D_K_pass_0 (z : xzs) (a0 : Nat) (h : xH) : Option xR :=
  (xisO h a0 0).bind fun _ => xclR (f_K_actor z [.ref a0] h) fun r2 h1 =>
  (xisO h1 a0 0).bind fun _ => xclI (f_K_nextStamp z [.ref a0] h1) fun x4 h3 =>
  r2.bind fun a5 =>
  (xwr h3 a5 2 8 (.int x4)).bind fun h6 =>
  (xisO h6 a0 0).bind fun _ => xclI (f_K_current z [.ref a0] h6) fun x8 h7 =>
  some (.inl (some (.int x8)), h7)
theorem E_K_pass (z : xzs) (a0 : Nat) (h : xH) : xle (D_K_pass_0 z a0 h) (xfun (K_K_pass z) 2 [.ref a0] h) := by
  unfold D_K_pass_0
  refine xle_entry (Nat.le_of_ble_eq_true rfl) (xal_c (xca_a _) (rfl)) ?_
  show xle _ (xev (K_K_pass z) (0, [(0, .ref a0)], [], h))
  refine xle_next (i := .aload_n 0) (x' := (1, [(0, .ref a0)], [.ref a0], h)) rfl rfl rfl ?_
  refine xle_isO (i := .invokevirtual 64) (bq := a0) (ci := 0) (fo := (f_K_actor z [.ref a0] h).bind (xback 1 [(0, .ref a0)] [])) rfl rfl rfl (fun hs => ?_)
  refine xle_clR (t := []) rfl rfl hs (fun r2 h1 => ?_)
  refine xle_astn (k := 1) (r := r2) (L' := [(0, .ref a0), (1, va_rf r2)]) rfl rfl rfl ?_
  refine xle_aldn (k := 1) (r := r2) rfl rfl rfl ?_
  refine xle_next (i := .aload_n 0) (x' := (7, [(0, .ref a0), (1, va_rf r2)], [.ref a0, va_rf r2], h1)) rfl rfl rfl ?_
  refine xle_isO (i := .invokevirtual 41) (bq := a0) (ci := 0) (fo := (f_K_nextStamp z [.ref a0] h1).bind (xback 7 [(0, .ref a0), (1, va_rf r2)] [va_rf r2])) rfl rfl rfl (fun hs => ?_)
  refine xle_clI (t := [va_rf r2]) rfl rfl hs (fun x4 h3 => ?_)
  refine xle_some (fun r_ => (10, [(0, .ref a0), (1, va_rf r_)], [.int x4, va_rf r_], h3)) (fun a5 => ?_)
  refine xle_put (v := .int x4) (f := (2, 8, .int, 1)) rfl rfl rfl ⟨by decide, rfl, rfl⟩ (fun h6 => ?_)
  refine xle_next (i := .aload_n 0) (x' := (14, [(0, .ref a0), (1, .ref a5)], [.ref a0], h6)) rfl rfl rfl ?_
  refine xle_isO (i := .invokevirtual 225) (bq := a0) (ci := 0) (fo := (f_K_current z [.ref a0] h6).bind (xback 14 [(0, .ref a0), (1, .ref a5)] [])) rfl rfl rfl (fun hs => ?_)
  refine xle_clI (t := []) rfl rfl hs (fun x8 h7 => ?_)
  exact xle_end (i := .ireturn) rfl rfl rfl
noncomputable def D_K_isClient_0 (z : xzs) (p0 : Int32) (h : xH) : Option xR :=
  xclI (f_K_isWithin z [.int p0, .int (Int32.ofInt 1), .int (Int32.ofInt 3)] h) fun x2 h1 =>
  if x2 = 0 ∨ x2 = 1 then some (.inl (some (.int x2)), h1) else none
theorem E_K_isClient (z : xzs) (p0 : Int32) (h : xH) : xle (D_K_isClient_0 z p0 h) (xfun (K_K_isClient z) 1 [.int p0] h) := by
  unfold D_K_isClient_0
  refine xle_entry (Nat.le_of_ble_eq_true rfl) (xal_c (xca_i _) (rfl)) ?_
  show xle _ (xev (K_K_isClient z) (0, [(0, .int p0)], [], h))
  refine xle_next (i := .iload_n 0) (x' := (1, [(0, .int p0)], [.int p0], h)) rfl rfl rfl ?_
  refine xle_next (i := .iconst 1) (x' := (2, [(0, .int p0)], [.int (Int32.ofInt 1), .int p0], h)) rfl rfl rfl ?_
  refine xle_next (i := .iconst 3) (x' := (3, [(0, .int p0)], [.int (Int32.ofInt 3), .int (Int32.ofInt 1), .int p0], h)) rfl rfl rfl ?_
  refine xle_clI (i := .invokestatic 72) (fo := f_K_isWithin z [.int p0, .int (Int32.ofInt 1), .int (Int32.ofInt 3)] h) (t := []) rfl rfl rfl (fun x2 h1 => ?_)
  exact xle_zret rfl rfl rfl
noncomputable def B_K_priority_20 (z : xzs) (a0 : Nat) (xv1 : Int32) (xv2 : Int32) (h : xH) : Option xR := xev (K_K_priority z) (20, [(0, .ref a0), (1, .int xv1), (2, .int xv2)], [], h)
noncomputable def B_K_priority_21 (z : xzs) (a0 : Nat) (xv1 : Int32) (xv2 : Int32) (xs0 : Int32) (h : xH) : Option xR := xev (K_K_priority z) (21, [(0, .ref a0), (1, .int xv1), (2, .int xv2)], [.int xs0], h)
noncomputable def D_K_priority_0 (z : xzs) (a0 : Nat) (p1 : Int32) (p2 : Int32) (h : xH) : Option xR :=
  xclI (f_K_isClient z [.int p1] h) fun x2 h1 =>
  if x2 = 0 then
    B_K_priority_20 z a0 p1 p2 h1
  else
    xclI (f_K_isWithin z [.int p2, .int (Int32.ofInt 0), .int (Int32.ofInt 3)] h1) fun x4 h3 =>
    if x4 = 0 then
      B_K_priority_20 z a0 p1 p2 h3
    else
      B_K_priority_21 z a0 p1 p2 (Int32.ofInt 1) h3
theorem E_K_priority (z : xzs) (a0 : Nat) (p1 : Int32) (p2 : Int32) (h : xH) : xle (D_K_priority_0 z a0 p1 p2 h) (xfun (K_K_priority z) 5 [.ref a0, .int p1, .int p2] h) := by
  unfold D_K_priority_0
  refine xle_entry (Nat.le_of_ble_eq_true rfl) (xal_c (xca_a _) (xal_c (xca_i _) (xal_c (xca_i _) (rfl)))) ?_
  show xle _ (xev (K_K_priority z) (0, [(0, .ref a0), (1, .int p1), (2, .int p2)], [], h))
  refine xle_next (i := .iload_n 1) (x' := (1, [(0, .ref a0), (1, .int p1), (2, .int p2)], [.int p1], h)) rfl rfl rfl ?_
  refine xle_clI (i := .invokestatic 228) (fo := f_K_isClient z [.int p1] h) (t := []) rfl rfl rfl (fun x2 h1 => ?_)
  refine xle_if (cd := .eq) (q := 20) rfl rfl rfl xc_eq (fun _ => ?_) (fun _ => ?_)
  · exact xle_jump rfl
  · refine xle_next (i := .iload_n 2) (x' := (8, [(0, .ref a0), (1, .int p1), (2, .int p2)], [.int p2], h1)) rfl rfl rfl ?_
    refine xle_next (i := .iconst 0) (x' := (9, [(0, .ref a0), (1, .int p1), (2, .int p2)], [.int (Int32.ofInt 0), .int p2], h1)) rfl rfl rfl ?_
    refine xle_next (i := .iconst 3) (x' := (10, [(0, .ref a0), (1, .int p1), (2, .int p2)], [.int (Int32.ofInt 3), .int (Int32.ofInt 0), .int p2], h1)) rfl rfl rfl ?_
    refine xle_clI (i := .invokestatic 72) (fo := f_K_isWithin z [.int p2, .int (Int32.ofInt 0), .int (Int32.ofInt 3)] h1) (t := []) rfl rfl rfl (fun x4 h3 => ?_)
    refine xle_if (cd := .eq) (q := 20) rfl rfl rfl xc_eq (fun _ => ?_) (fun _ => ?_)
    · exact xle_jump rfl
    · refine xle_next (i := .iconst 1) (x' := (17, [(0, .ref a0), (1, .int p1), (2, .int p2)], [.int (Int32.ofInt 1)], h3)) rfl rfl rfl ?_
      refine xle_next (i := .goto 4) (x' := (21, [(0, .ref a0), (1, .int p1), (2, .int p2)], [.int (Int32.ofInt 1)], h3)) rfl rfl rfl ?_
      exact xle_jump rfl
noncomputable def D_K_priority_20 (z : xzs) (a0 : Nat) (xv1 : Int32) (xv2 : Int32) (h : xH) : Option xR :=
  B_K_priority_21 z a0 xv1 xv2 (Int32.ofInt 0) h
theorem E_K_priority_20 (z : xzs) (a0 : Nat) (xv1 : Int32) (xv2 : Int32) (h : xH) : xle (D_K_priority_20 z a0 xv1 xv2 h) (B_K_priority_20 z a0 xv1 xv2 h) := by
  unfold D_K_priority_20 B_K_priority_20
  refine xle_next (i := .iconst 0) (x' := (21, [(0, .ref a0), (1, .int xv1), (2, .int xv2)], [.int (Int32.ofInt 0)], h)) rfl rfl rfl ?_
  exact xle_jump rfl
noncomputable def D_K_priority_21 (z : xzs) (a0 : Nat) (xv1 : Int32) (xv2 : Int32) (xs0 : Int32) (h : xH) : Option xR :=
  xclV (f_K_needNumbers z [.int xs0] h) fun h5 =>
  (rdR h5 a0 0 0).bind fun r6 =>
  r6.bind fun a7 =>
  (rdQ h5 a7 (xv1 - (Int32.ofInt 1))).bind fun r8 =>
  r8.bind fun a9 =>
  (rdI h5 a9 2 7).bind fun x10 =>
  (xwr h5 a9 2 7 (.int xv2)).bind fun h11 =>
  some (.inl (some (.int x10)), h11)
theorem E_K_priority_21 (z : xzs) (a0 : Nat) (xv1 : Int32) (xv2 : Int32) (xs0 : Int32) (h : xH) : xle (D_K_priority_21 z a0 xv1 xv2 xs0 h) (B_K_priority_21 z a0 xv1 xv2 xs0 h) := by
  unfold D_K_priority_21 B_K_priority_21
  refine xle_clV (i := .invokestatic 76) (fo := f_K_needNumbers z [.int xs0] h) (t := []) rfl rfl rfl (fun h5 => ?_)
  refine xle_next (i := .aload_n 0) (x' := (25, [(0, .ref a0), (1, .int xv1), (2, .int xv2)], [.ref a0], h5)) rfl rfl rfl ?_
  refine xle_getR (f := (0, 0, .array (.object "CapKernel$Client"), 0)) rfl rfl rfl (fun r6 => ?_)
  refine xle_next (i := .iload_n 1) (x' := (29, [(0, .ref a0), (1, .int xv1), (2, .int xv2)], [.int xv1, va_rf r6], h5)) rfl rfl rfl ?_
  refine xle_next (i := .iconst 1) (x' := (30, [(0, .ref a0), (1, .int xv1), (2, .int xv2)], [.int (Int32.ofInt 1), .int xv1, va_rf r6], h5)) rfl rfl rfl ?_
  refine xle_next (i := .isub) (x' := (31, [(0, .ref a0), (1, .int xv1), (2, .int xv2)], [.int (xv1 - (Int32.ofInt 1)), va_rf r6], h5)) rfl rfl rfl ?_
  refine xle_some (fun r_ => (31, [(0, .ref a0), (1, .int xv1), (2, .int xv2)], [.int (xv1 - (Int32.ofInt 1)), va_rf r_], h5)) (fun a7 => ?_)
  refine xle_aald rfl rfl (fun r8 => ?_)
  refine xle_astn (k := 3) (r := r8) (L' := [(0, .ref a0), (1, .int xv1), (2, .int xv2), (3, va_rf r8)]) rfl rfl rfl ?_
  refine xle_aldn (k := 3) (r := r8) rfl rfl rfl ?_
  refine xle_some (fun r_ => (34, [(0, .ref a0), (1, .int xv1), (2, .int xv2), (3, va_rf r_)], [va_rf r_], h5)) (fun a9 => ?_)
  refine xle_getI (f := (2, 7, .int, 1)) rfl rfl rfl (fun x10 => ?_)
  refine xle_next (i := .istore 4) (x' := (39, [(0, .ref a0), (1, .int xv1), (2, .int xv2), (3, .ref a9), (4, .int x10)], [], h5)) rfl rfl rfl ?_
  refine xle_next (i := .aload_n 3) (x' := (40, [(0, .ref a0), (1, .int xv1), (2, .int xv2), (3, .ref a9), (4, .int x10)], [.ref a9], h5)) rfl rfl rfl ?_
  refine xle_next (i := .iload_n 2) (x' := (41, [(0, .ref a0), (1, .int xv1), (2, .int xv2), (3, .ref a9), (4, .int x10)], [.int xv2, .ref a9], h5)) rfl rfl rfl ?_
  refine xle_put (v := .int xv2) (f := (2, 7, .int, 1)) rfl rfl rfl ⟨by decide, rfl, rfl⟩ (fun h11 => ?_)
  refine xle_next (i := .iload 4) (x' := (46, [(0, .ref a0), (1, .int xv1), (2, .int xv2), (3, .ref a9), (4, .int x10)], [.int x10], h11)) rfl rfl rfl ?_
  exact xle_end (i := .ireturn) rfl rfl rfl
noncomputable def B_K_thread_20 (z : xzs) (a0 : Nat) (xv1 : Int32) (xv2 : Int32) (h : xH) : Option xR := xev (K_K_thread z) (20, [(0, .ref a0), (1, .int xv1), (2, .int xv2)], [], h)
noncomputable def B_K_thread_21 (z : xzs) (a0 : Nat) (xv1 : Int32) (xv2 : Int32) (xs0 : Int32) (h : xH) : Option xR := xev (K_K_thread z) (21, [(0, .ref a0), (1, .int xv1), (2, .int xv2)], [.int xs0], h)
noncomputable def D_K_thread_0 (z : xzs) (a0 : Nat) (p1 : Int32) (p2 : Int32) (h : xH) : Option xR :=
  xclI (f_K_isClient z [.int p1] h) fun x2 h1 =>
  if x2 = 0 then
    B_K_thread_20 z a0 p1 p2 h1
  else
    xclI (f_K_isWithin z [.int p2, .int (Int32.ofInt 0), .int (Int32.ofInt 5)] h1) fun x4 h3 =>
    if x4 = 0 then
      B_K_thread_20 z a0 p1 p2 h3
    else
      B_K_thread_21 z a0 p1 p2 (Int32.ofInt 1) h3
theorem E_K_thread (z : xzs) (a0 : Nat) (p1 : Int32) (p2 : Int32) (h : xH) : xle (D_K_thread_0 z a0 p1 p2 h) (xfun (K_K_thread z) 4 [.ref a0, .int p1, .int p2] h) := by
  unfold D_K_thread_0
  refine xle_entry (Nat.le_of_ble_eq_true rfl) (xal_c (xca_a _) (xal_c (xca_i _) (xal_c (xca_i _) (rfl)))) ?_
  show xle _ (xev (K_K_thread z) (0, [(0, .ref a0), (1, .int p1), (2, .int p2)], [], h))
  refine xle_next (i := .iload_n 1) (x' := (1, [(0, .ref a0), (1, .int p1), (2, .int p2)], [.int p1], h)) rfl rfl rfl ?_
  refine xle_clI (i := .invokestatic 228) (fo := f_K_isClient z [.int p1] h) (t := []) rfl rfl rfl (fun x2 h1 => ?_)
  refine xle_if (cd := .eq) (q := 20) rfl rfl rfl xc_eq (fun _ => ?_) (fun _ => ?_)
  · exact xle_jump rfl
  · refine xle_next (i := .iload_n 2) (x' := (8, [(0, .ref a0), (1, .int p1), (2, .int p2)], [.int p2], h1)) rfl rfl rfl ?_
    refine xle_next (i := .iconst 0) (x' := (9, [(0, .ref a0), (1, .int p1), (2, .int p2)], [.int (Int32.ofInt 0), .int p2], h1)) rfl rfl rfl ?_
    refine xle_next (i := .iconst 5) (x' := (10, [(0, .ref a0), (1, .int p1), (2, .int p2)], [.int (Int32.ofInt 5), .int (Int32.ofInt 0), .int p2], h1)) rfl rfl rfl ?_
    refine xle_clI (i := .invokestatic 72) (fo := f_K_isWithin z [.int p2, .int (Int32.ofInt 0), .int (Int32.ofInt 5)] h1) (t := []) rfl rfl rfl (fun x4 h3 => ?_)
    refine xle_if (cd := .eq) (q := 20) rfl rfl rfl xc_eq (fun _ => ?_) (fun _ => ?_)
    · exact xle_jump rfl
    · refine xle_next (i := .iconst 1) (x' := (17, [(0, .ref a0), (1, .int p1), (2, .int p2)], [.int (Int32.ofInt 1)], h3)) rfl rfl rfl ?_
      refine xle_next (i := .goto 4) (x' := (21, [(0, .ref a0), (1, .int p1), (2, .int p2)], [.int (Int32.ofInt 1)], h3)) rfl rfl rfl ?_
      exact xle_jump rfl
noncomputable def D_K_thread_20 (z : xzs) (a0 : Nat) (xv1 : Int32) (xv2 : Int32) (h : xH) : Option xR :=
  B_K_thread_21 z a0 xv1 xv2 (Int32.ofInt 0) h
theorem E_K_thread_20 (z : xzs) (a0 : Nat) (xv1 : Int32) (xv2 : Int32) (h : xH) : xle (D_K_thread_20 z a0 xv1 xv2 h) (B_K_thread_20 z a0 xv1 xv2 h) := by
  unfold D_K_thread_20 B_K_thread_20
  refine xle_next (i := .iconst 0) (x' := (21, [(0, .ref a0), (1, .int xv1), (2, .int xv2)], [.int (Int32.ofInt 0)], h)) rfl rfl rfl ?_
  exact xle_jump rfl
noncomputable def D_K_thread_21 (z : xzs) (a0 : Nat) (xv1 : Int32) (xv2 : Int32) (xs0 : Int32) (h : xH) : Option xR :=
  xclV (f_K_needNumbers z [.int xs0] h) fun h5 =>
  (rdR h5 a0 0 0).bind fun r6 =>
  r6.bind fun a7 =>
  (rdQ h5 a7 (xv1 - (Int32.ofInt 1))).bind fun r8 =>
  if xv2 = 0 then
    r8.bind fun a9 =>
    (rdI h5 a9 2 2).bind fun x10 =>
    some (.inl (some (.int x10)), h5)
  else
    if xv2 = 1 then
      r8.bind fun a11 =>
      (rdI h5 a11 2 3).bind fun x12 =>
      some (.inl (some (.int x12)), h5)
    else
      if xv2 = 2 then
        r8.bind fun a13 =>
        (rdI h5 a13 2 4).bind fun x14 =>
        some (.inl (some (.int x14)), h5)
      else
        if xv2 = 3 then
          r8.bind fun a15 =>
          (rdI h5 a15 2 5).bind fun x16 =>
          some (.inl (some (.int x16)), h5)
        else
          if xv2 = 4 then
            r8.bind fun a17 =>
            (rdI h5 a17 2 6).bind fun x18 =>
            some (.inl (some (.int x18)), h5)
          else
            r8.bind fun a19 =>
            (rdI h5 a19 2 7).bind fun x20 =>
            some (.inl (some (.int x20)), h5)
theorem E_K_thread_21 (z : xzs) (a0 : Nat) (xv1 : Int32) (xv2 : Int32) (xs0 : Int32) (h : xH) : xle (D_K_thread_21 z a0 xv1 xv2 xs0 h) (B_K_thread_21 z a0 xv1 xv2 xs0 h) := by
  unfold D_K_thread_21 B_K_thread_21
  refine xle_clV (i := .invokestatic 76) (fo := f_K_needNumbers z [.int xs0] h) (t := []) rfl rfl rfl (fun h5 => ?_)
  refine xle_next (i := .aload_n 0) (x' := (25, [(0, .ref a0), (1, .int xv1), (2, .int xv2)], [.ref a0], h5)) rfl rfl rfl ?_
  refine xle_getR (f := (0, 0, .array (.object "CapKernel$Client"), 0)) rfl rfl rfl (fun r6 => ?_)
  refine xle_next (i := .iload_n 1) (x' := (29, [(0, .ref a0), (1, .int xv1), (2, .int xv2)], [.int xv1, va_rf r6], h5)) rfl rfl rfl ?_
  refine xle_next (i := .iconst 1) (x' := (30, [(0, .ref a0), (1, .int xv1), (2, .int xv2)], [.int (Int32.ofInt 1), .int xv1, va_rf r6], h5)) rfl rfl rfl ?_
  refine xle_next (i := .isub) (x' := (31, [(0, .ref a0), (1, .int xv1), (2, .int xv2)], [.int (xv1 - (Int32.ofInt 1)), va_rf r6], h5)) rfl rfl rfl ?_
  refine xle_some (fun r_ => (31, [(0, .ref a0), (1, .int xv1), (2, .int xv2)], [.int (xv1 - (Int32.ofInt 1)), va_rf r_], h5)) (fun a7 => ?_)
  refine xle_aald rfl rfl (fun r8 => ?_)
  refine xle_astn (k := 3) (r := r8) (L' := [(0, .ref a0), (1, .int xv1), (2, .int xv2), (3, va_rf r8)]) rfl rfl rfl ?_
  refine xle_next (i := .iload_n 2) (x' := (34, [(0, .ref a0), (1, .int xv1), (2, .int xv2), (3, va_rf r8)], [.int xv2], h5)) rfl rfl rfl ?_
  refine xle_ite (fun e0 => ?_) (fun e0 => ?_)
  · subst e0
    refine xle_tsw (x := 0) (off := 34) (q := 68) rfl rfl (by decide) (by decide) rfl ?_
    refine xle_aldn (k := 3) (r := r8) rfl rfl rfl ?_
    refine xle_some (fun r_ => (69, [(0, .ref a0), (1, .int xv1), (2, .int (0)), (3, va_rf r_)], [va_rf r_], h5)) (fun a9 => ?_)
    refine xle_getI (f := (2, 2, .int, 1)) rfl rfl rfl (fun x10 => ?_)
    exact xle_end (i := .ireturn) rfl rfl rfl
  · refine xle_ite (fun e1 => ?_) (fun e1 => ?_)
    · subst e1
      refine xle_tsw (x := 1) (off := 39) (q := 73) rfl rfl (by decide) (by decide) rfl ?_
      refine xle_aldn (k := 3) (r := r8) rfl rfl rfl ?_
      refine xle_some (fun r_ => (74, [(0, .ref a0), (1, .int xv1), (2, .int (1)), (3, va_rf r_)], [va_rf r_], h5)) (fun a11 => ?_)
      refine xle_getI (f := (2, 3, .int, 1)) rfl rfl rfl (fun x12 => ?_)
      exact xle_end (i := .ireturn) rfl rfl rfl
    · refine xle_ite (fun e2 => ?_) (fun e2 => ?_)
      · subst e2
        refine xle_tsw (x := 2) (off := 44) (q := 78) rfl rfl (by decide) (by decide) rfl ?_
        refine xle_aldn (k := 3) (r := r8) rfl rfl rfl ?_
        refine xle_some (fun r_ => (79, [(0, .ref a0), (1, .int xv1), (2, .int (2)), (3, va_rf r_)], [va_rf r_], h5)) (fun a13 => ?_)
        refine xle_getI (f := (2, 4, .int, 1)) rfl rfl rfl (fun x14 => ?_)
        exact xle_end (i := .ireturn) rfl rfl rfl
      · refine xle_ite (fun e3 => ?_) (fun e3 => ?_)
        · subst e3
          refine xle_tsw (x := 3) (off := 49) (q := 83) rfl rfl (by decide) (by decide) rfl ?_
          refine xle_aldn (k := 3) (r := r8) rfl rfl rfl ?_
          refine xle_some (fun r_ => (84, [(0, .ref a0), (1, .int xv1), (2, .int (3)), (3, va_rf r_)], [va_rf r_], h5)) (fun a15 => ?_)
          refine xle_getI (f := (2, 5, .int, 1)) rfl rfl rfl (fun x16 => ?_)
          exact xle_end (i := .ireturn) rfl rfl rfl
        · refine xle_ite (fun e4 => ?_) (fun e4 => ?_)
          · subst e4
            refine xle_tsw (x := 4) (off := 54) (q := 88) rfl rfl (by decide) (by decide) rfl ?_
            refine xle_aldn (k := 3) (r := r8) rfl rfl rfl ?_
            refine xle_some (fun r_ => (89, [(0, .ref a0), (1, .int xv1), (2, .int (4)), (3, va_rf r_)], [va_rf r_], h5)) (fun a17 => ?_)
            refine xle_getI (f := (2, 6, .int, 1)) rfl rfl rfl (fun x18 => ?_)
            exact xle_end (i := .ireturn) rfl rfl rfl
          · have hts : xv2.toInt < 0 ∨ 4 < xv2.toInt := by
              have t0 : ¬ xv2.toInt = 0 := fun w => e0 (Int32.toInt_inj.mp (w.trans (by decide)))
              have t1 : ¬ xv2.toInt = 1 := fun w => e1 (Int32.toInt_inj.mp (w.trans (by decide)))
              have t2 : ¬ xv2.toInt = 2 := fun w => e2 (Int32.toInt_inj.mp (w.trans (by decide)))
              have t3 : ¬ xv2.toInt = 3 := fun w => e3 (Int32.toInt_inj.mp (w.trans (by decide)))
              have t4 : ¬ xv2.toInt = 4 := fun w => e4 (Int32.toInt_inj.mp (w.trans (by decide)))
              omega
            refine xle_tsd (q := 93) rfl rfl hts rfl ?_
            refine xle_aldn (k := 3) (r := r8) rfl rfl rfl ?_
            refine xle_some (fun r_ => (94, [(0, .ref a0), (1, .int xv1), (2, .int xv2), (3, va_rf r_)], [va_rf r_], h5)) (fun a19 => ?_)
            refine xle_getI (f := (2, 7, .int, 1)) rfl rfl rfl (fun x20 => ?_)
            exact xle_end (i := .ireturn) rfl rfl rfl
noncomputable def B_K_howManyCameOf_4 (z : xzs) (a0 : Nat) (rv1 : Option Nat) (xv2 : Int32) (xv3 : Int32) (h : xH) : Option xR := xev (K_K_howManyCameOf z) (4, [(0, .ref a0), (1, va_rf rv1), (2, .int xv2), (3, .int xv3)], [], h)
noncomputable def B_K_howManyCameOf_36 (z : xzs) (a0 : Nat) (rv1 : Option Nat) (xv2 : Int32) (xv3 : Int32) (h : xH) : Option xR := xev (K_K_howManyCameOf z) (36, [(0, .ref a0), (1, va_rf rv1), (2, .int xv2), (3, .int xv3)], [], h)
noncomputable def D_K_howManyCameOf_0 (z : xzs) (a0 : Nat) (p1 : Option Nat) (h : xH) : Option xR :=
  B_K_howManyCameOf_4 z a0 p1 (Int32.ofInt 0) (Int32.ofInt 0) h
theorem E_K_howManyCameOf (z : xzs) (a0 : Nat) (p1 : Option Nat) (h : xH) : xle (D_K_howManyCameOf_0 z a0 p1 h) (xfun (K_K_howManyCameOf z) 4 [.ref a0, va_rf p1] h) := by
  unfold D_K_howManyCameOf_0
  refine xle_entry (Nat.le_of_ble_eq_true rfl) (xal_c (xca_a _) (xal_c (xca_r _) (rfl))) ?_
  show xle _ (xev (K_K_howManyCameOf z) (0, [(0, .ref a0), (1, va_rf p1)], [], h))
  refine xle_next (i := .iconst 0) (x' := (1, [(0, .ref a0), (1, va_rf p1)], [.int (Int32.ofInt 0)], h)) rfl rfl rfl ?_
  refine xle_next (i := .istore_n 2) (x' := (2, [(0, .ref a0), (1, va_rf p1), (2, .int (Int32.ofInt 0))], [], h)) rfl rfl rfl ?_
  refine xle_next (i := .iconst 0) (x' := (3, [(0, .ref a0), (1, va_rf p1), (2, .int (Int32.ofInt 0))], [.int (Int32.ofInt 0)], h)) rfl rfl rfl ?_
  refine xle_next (i := .istore_n 3) (x' := (4, [(0, .ref a0), (1, va_rf p1), (2, .int (Int32.ofInt 0)), (3, .int (Int32.ofInt 0))], [], h)) rfl rfl rfl ?_
  exact xle_jump rfl
noncomputable def D_K_howManyCameOf_4 (z : xzs) (a0 : Nat) (rv1 : Option Nat) (xv2 : Int32) (xv3 : Int32) (h : xH) : Option xR :=
  (rdR h a0 0 6).bind fun r1 =>
  r1.bind fun a2 =>
  (xisO h a2 7).bind fun _ => xclI (f_A_size z [.ref a2] h) fun x4 h3 =>
  if x4 ≤ xv3 then
    some (.inl (some (.int xv2)), h3)
  else
    (rdR h3 a0 0 6).bind fun r5 =>
    r5.bind fun a6 =>
    (xisO h3 a6 7).bind fun _ => xclR (f_A_get z [.ref a6, .int xv3] h3) fun r8 h7 =>
    (xcst h7 1 r8).bind fun _ =>
    r8.bind fun a9 =>
    (xisO h7 a9 1).bind fun _ => xclI (f_C_cameOf z [.ref a9, va_rf rv1] h7) fun x11 h10 =>
    if x11 = 0 then
      B_K_howManyCameOf_36 z a0 rv1 xv2 xv3 h10
    else
      B_K_howManyCameOf_36 z a0 rv1 (xv2 + Int32.ofInt 1) xv3 h10
theorem E_K_howManyCameOf_4 (z : xzs) (a0 : Nat) (rv1 : Option Nat) (xv2 : Int32) (xv3 : Int32) (h : xH) : xle (D_K_howManyCameOf_4 z a0 rv1 xv2 xv3 h) (B_K_howManyCameOf_4 z a0 rv1 xv2 xv3 h) := by
  unfold D_K_howManyCameOf_4 B_K_howManyCameOf_4
  refine xle_next (i := .iload_n 3) (x' := (5, [(0, .ref a0), (1, va_rf rv1), (2, .int xv2), (3, .int xv3)], [.int xv3], h)) rfl rfl rfl ?_
  refine xle_next (i := .aload_n 0) (x' := (6, [(0, .ref a0), (1, va_rf rv1), (2, .int xv2), (3, .int xv3)], [.ref a0, .int xv3], h)) rfl rfl rfl ?_
  refine xle_getR (f := (0, 6, .object "java/util/ArrayList", 0)) rfl rfl rfl (fun r1 => ?_)
  refine xle_some (fun r_ => (9, [(0, .ref a0), (1, va_rf rv1), (2, .int xv2), (3, .int xv3)], [va_rf r_, .int xv3], h)) (fun a2 => ?_)
  refine xle_isO (i := .invokevirtual 253) (bq := a2) (ci := 7) (fo := (f_A_size z [.ref a2] h).bind (xback 9 [(0, .ref a0), (1, va_rf rv1), (2, .int xv2), (3, .int xv3)] [.int xv3])) rfl rfl rfl (fun hs => ?_)
  refine xle_clI (t := [.int xv3]) rfl rfl hs (fun x4 h3 => ?_)
  refine xle_icmp (cd := .ge) (q := 42) rfl rfl rfl xc_ge (fun _ => ?_) (fun _ => ?_)
  · refine xle_next (i := .iload_n 2) (x' := (43, [(0, .ref a0), (1, va_rf rv1), (2, .int xv2), (3, .int xv3)], [.int xv2], h3)) rfl rfl rfl ?_
    exact xle_end (i := .ireturn) rfl rfl rfl
  · refine xle_next (i := .aload_n 0) (x' := (16, [(0, .ref a0), (1, va_rf rv1), (2, .int xv2), (3, .int xv3)], [.ref a0], h3)) rfl rfl rfl ?_
    refine xle_getR (f := (0, 6, .object "java/util/ArrayList", 0)) rfl rfl rfl (fun r5 => ?_)
    refine xle_next (i := .iload_n 3) (x' := (20, [(0, .ref a0), (1, va_rf rv1), (2, .int xv2), (3, .int xv3)], [.int xv3, va_rf r5], h3)) rfl rfl rfl ?_
    refine xle_some (fun r_ => (20, [(0, .ref a0), (1, va_rf rv1), (2, .int xv2), (3, .int xv3)], [.int xv3, va_rf r_], h3)) (fun a6 => ?_)
    refine xle_isO (i := .invokevirtual 307) (bq := a6) (ci := 7) (fo := (f_A_get z [.ref a6, .int xv3] h3).bind (xback 20 [(0, .ref a0), (1, va_rf rv1), (2, .int xv2), (3, .int xv3)] [])) rfl rfl rfl (fun hs => ?_)
    refine xle_clR (t := []) rfl rfl hs (fun r8 h7 => ?_)
    refine xle_cast (ci := 1) (y := r8) rfl rfl rfl ?_
    refine xle_aldn (k := 1) (r := rv1) rfl rfl rfl ?_
    refine xle_some (fun r_ => (27, [(0, .ref a0), (1, va_rf rv1), (2, .int xv2), (3, .int xv3)], [va_rf rv1, va_rf r_], h7)) (fun a9 => ?_)
    refine xle_isO (i := .invokevirtual 311) (bq := a9) (ci := 1) (fo := (f_C_cameOf z [.ref a9, va_rf rv1] h7).bind (xback 27 [(0, .ref a0), (1, va_rf rv1), (2, .int xv2), (3, .int xv3)] [])) rfl rfl rfl (fun hs => ?_)
    refine xle_clI (t := []) rfl rfl hs (fun x11 h10 => ?_)
    refine xle_if (cd := .eq) (q := 36) rfl rfl rfl xc_eq (fun _ => ?_) (fun _ => ?_)
    · exact xle_jump rfl
    · refine xle_next (i := .iinc 2 1) (x' := (36, [(0, .ref a0), (1, va_rf rv1), (2, .int (xv2 + Int32.ofInt 1)), (3, .int xv3)], [], h10)) rfl rfl rfl ?_
      exact xle_jump rfl
noncomputable def D_K_howManyCameOf_36 (z : xzs) (a0 : Nat) (rv1 : Option Nat) (xv2 : Int32) (xv3 : Int32) (h : xH) : Option xR :=
  B_K_howManyCameOf_4 z a0 rv1 xv2 (xv3 + Int32.ofInt 1) h
theorem E_K_howManyCameOf_36 (z : xzs) (a0 : Nat) (rv1 : Option Nat) (xv2 : Int32) (xv3 : Int32) (h : xH) : xle (D_K_howManyCameOf_36 z a0 rv1 xv2 xv3 h) (B_K_howManyCameOf_36 z a0 rv1 xv2 xv3 h) := by
  unfold D_K_howManyCameOf_36 B_K_howManyCameOf_36
  refine xle_next (i := .iinc 3 1) (x' := (39, [(0, .ref a0), (1, va_rf rv1), (2, .int xv2), (3, .int (xv3 + Int32.ofInt 1))], [], h)) rfl rfl rfl ?_
  refine xle_next (i := .goto (-35)) (x' := (4, [(0, .ref a0), (1, va_rf rv1), (2, .int xv2), (3, .int (xv3 + Int32.ofInt 1))], [], h)) rfl rfl rfl ?_
  exact xle_jump rfl
noncomputable def B_K_look_27 (z : xzs) (a0 : Nat) (xv1 : Int32) (xv2 : Int32) (xv3 : Int32) (h : xH) : Option xR := xev (K_K_look z) (27, [(0, .ref a0), (1, .int xv1), (2, .int xv2), (3, .int xv3)], [], h)
noncomputable def B_K_look_28 (z : xzs) (a0 : Nat) (xv1 : Int32) (xv2 : Int32) (xv3 : Int32) (xs0 : Int32) (h : xH) : Option xR := xev (K_K_look z) (28, [(0, .ref a0), (1, .int xv1), (2, .int xv2), (3, .int xv3)], [.int xs0], h)
noncomputable def D_K_look_0 (z : xzs) (a0 : Nat) (p1 : Int32) (p2 : Int32) (p3 : Int32) (h : xH) : Option xR :=
  xclI (f_K_isClient z [.int p1] h) fun x2 h1 =>
  if x2 = 0 then
    B_K_look_27 z a0 p1 p2 p3 h1
  else
    xclI (f_K_isAddress z [.int p2] h1) fun x4 h3 =>
    if x4 = 0 then
      B_K_look_27 z a0 p1 p2 p3 h3
    else
      xclI (f_K_isWithin z [.int p3, .int (Int32.ofInt 0), .int (Int32.ofInt 4)] h3) fun x6 h5 =>
      if x6 = 0 then
        B_K_look_27 z a0 p1 p2 p3 h5
      else
        B_K_look_28 z a0 p1 p2 p3 (Int32.ofInt 1) h5
theorem E_K_look (z : xzs) (a0 : Nat) (p1 : Int32) (p2 : Int32) (p3 : Int32) (h : xH) : xle (D_K_look_0 z a0 p1 p2 p3 h) (xfun (K_K_look z) 5 [.ref a0, .int p1, .int p2, .int p3] h) := by
  unfold D_K_look_0
  refine xle_entry (Nat.le_of_ble_eq_true rfl) (xal_c (xca_a _) (xal_c (xca_i _) (xal_c (xca_i _) (xal_c (xca_i _) (rfl))))) ?_
  show xle _ (xev (K_K_look z) (0, [(0, .ref a0), (1, .int p1), (2, .int p2), (3, .int p3)], [], h))
  refine xle_next (i := .iload_n 1) (x' := (1, [(0, .ref a0), (1, .int p1), (2, .int p2), (3, .int p3)], [.int p1], h)) rfl rfl rfl ?_
  refine xle_clI (i := .invokestatic 228) (fo := f_K_isClient z [.int p1] h) (t := []) rfl rfl rfl (fun x2 h1 => ?_)
  refine xle_if (cd := .eq) (q := 27) rfl rfl rfl xc_eq (fun _ => ?_) (fun _ => ?_)
  · exact xle_jump rfl
  · refine xle_next (i := .iload_n 2) (x' := (8, [(0, .ref a0), (1, .int p1), (2, .int p2), (3, .int p3)], [.int p2], h1)) rfl rfl rfl ?_
    refine xle_clI (i := .invokestatic 68) (fo := f_K_isAddress z [.int p2] h1) (t := []) rfl rfl rfl (fun x4 h3 => ?_)
    refine xle_if (cd := .eq) (q := 27) rfl rfl rfl xc_eq (fun _ => ?_) (fun _ => ?_)
    · exact xle_jump rfl
    · refine xle_next (i := .iload_n 3) (x' := (15, [(0, .ref a0), (1, .int p1), (2, .int p2), (3, .int p3)], [.int p3], h3)) rfl rfl rfl ?_
      refine xle_next (i := .iconst 0) (x' := (16, [(0, .ref a0), (1, .int p1), (2, .int p2), (3, .int p3)], [.int (Int32.ofInt 0), .int p3], h3)) rfl rfl rfl ?_
      refine xle_next (i := .iconst 4) (x' := (17, [(0, .ref a0), (1, .int p1), (2, .int p2), (3, .int p3)], [.int (Int32.ofInt 4), .int (Int32.ofInt 0), .int p3], h3)) rfl rfl rfl ?_
      refine xle_clI (i := .invokestatic 72) (fo := f_K_isWithin z [.int p3, .int (Int32.ofInt 0), .int (Int32.ofInt 4)] h3) (t := []) rfl rfl rfl (fun x6 h5 => ?_)
      refine xle_if (cd := .eq) (q := 27) rfl rfl rfl xc_eq (fun _ => ?_) (fun _ => ?_)
      · exact xle_jump rfl
      · refine xle_next (i := .iconst 1) (x' := (24, [(0, .ref a0), (1, .int p1), (2, .int p2), (3, .int p3)], [.int (Int32.ofInt 1)], h5)) rfl rfl rfl ?_
        refine xle_next (i := .goto 4) (x' := (28, [(0, .ref a0), (1, .int p1), (2, .int p2), (3, .int p3)], [.int (Int32.ofInt 1)], h5)) rfl rfl rfl ?_
        exact xle_jump rfl
noncomputable def D_K_look_27 (z : xzs) (a0 : Nat) (xv1 : Int32) (xv2 : Int32) (xv3 : Int32) (h : xH) : Option xR :=
  B_K_look_28 z a0 xv1 xv2 xv3 (Int32.ofInt 0) h
theorem E_K_look_27 (z : xzs) (a0 : Nat) (xv1 : Int32) (xv2 : Int32) (xv3 : Int32) (h : xH) : xle (D_K_look_27 z a0 xv1 xv2 xv3 h) (B_K_look_27 z a0 xv1 xv2 xv3 h) := by
  unfold D_K_look_27 B_K_look_27
  refine xle_next (i := .iconst 0) (x' := (28, [(0, .ref a0), (1, .int xv1), (2, .int xv2), (3, .int xv3)], [.int (Int32.ofInt 0)], h)) rfl rfl rfl ?_
  exact xle_jump rfl
noncomputable def D_K_look_28 (z : xzs) (a0 : Nat) (xv1 : Int32) (xv2 : Int32) (xv3 : Int32) (xs0 : Int32) (h : xH) : Option xR :=
  xclV (f_K_needNumbers z [.int xs0] h) fun h7 =>
  (rdR h7 a0 0 0).bind fun r8 =>
  r8.bind fun a9 =>
  (rdQ h7 a9 (xv1 - (Int32.ofInt 1))).bind fun r10 =>
  xclR (f_K_capabilityAt z [va_rf r10, .int xv2] h7) fun r12 h11 =>
  if xv3 = 0 then
    r12.bind fun a13 =>
    (rdR h11 a13 1 0).bind fun r14 =>
    r14.bind fun a15 =>
    (rdI h11 a15 5 0).bind fun x16 =>
    some (.inl (some (.int x16)), h11)
  else
    if xv3 = 1 then
      r12.bind fun a17 =>
      (rdI h11 a17 1 1).bind fun x18 =>
      some (.inl (some (.int x18)), h11)
    else
      if xv3 = 2 then
        r12.bind fun a19 =>
        (rdI h11 a19 1 2).bind fun x20 =>
        some (.inl (some (.int x20)), h11)
      else
        if xv3 = 3 then
          (xisO h11 a0 0).bind fun _ => xclI (f_K_howManyCameOf z [.ref a0, va_rf r12] h11) fun x22 h21 =>
          some (.inl (some (.int x22)), h21)
        else
          r12.bind fun a23 =>
          (rdR h11 a23 1 0).bind fun r24 =>
          r24.bind fun a25 =>
          (xisO h11 a25 5).bind fun _ => xclI (f_T_content z [.ref a25] h11) fun x27 h26 =>
          some (.inl (some (.int x27)), h26)
theorem E_K_look_28 (z : xzs) (a0 : Nat) (xv1 : Int32) (xv2 : Int32) (xv3 : Int32) (xs0 : Int32) (h : xH) : xle (D_K_look_28 z a0 xv1 xv2 xv3 xs0 h) (B_K_look_28 z a0 xv1 xv2 xv3 xs0 h) := by
  unfold D_K_look_28 B_K_look_28
  refine xle_clV (i := .invokestatic 76) (fo := f_K_needNumbers z [.int xs0] h) (t := []) rfl rfl rfl (fun h7 => ?_)
  refine xle_next (i := .aload_n 0) (x' := (32, [(0, .ref a0), (1, .int xv1), (2, .int xv2), (3, .int xv3)], [.ref a0], h7)) rfl rfl rfl ?_
  refine xle_getR (f := (0, 0, .array (.object "CapKernel$Client"), 0)) rfl rfl rfl (fun r8 => ?_)
  refine xle_next (i := .iload_n 1) (x' := (36, [(0, .ref a0), (1, .int xv1), (2, .int xv2), (3, .int xv3)], [.int xv1, va_rf r8], h7)) rfl rfl rfl ?_
  refine xle_next (i := .iconst 1) (x' := (37, [(0, .ref a0), (1, .int xv1), (2, .int xv2), (3, .int xv3)], [.int (Int32.ofInt 1), .int xv1, va_rf r8], h7)) rfl rfl rfl ?_
  refine xle_next (i := .isub) (x' := (38, [(0, .ref a0), (1, .int xv1), (2, .int xv2), (3, .int xv3)], [.int (xv1 - (Int32.ofInt 1)), va_rf r8], h7)) rfl rfl rfl ?_
  refine xle_some (fun r_ => (38, [(0, .ref a0), (1, .int xv1), (2, .int xv2), (3, .int xv3)], [.int (xv1 - (Int32.ofInt 1)), va_rf r_], h7)) (fun a9 => ?_)
  refine xle_aald rfl rfl (fun r10 => ?_)
  refine xle_next (i := .iload_n 2) (x' := (40, [(0, .ref a0), (1, .int xv1), (2, .int xv2), (3, .int xv3)], [.int xv2, va_rf r10], h7)) rfl rfl rfl ?_
  refine xle_clR (i := .invokestatic 80) (fo := f_K_capabilityAt z [va_rf r10, .int xv2] h7) (t := []) rfl rfl rfl (fun r12 h11 => ?_)
  refine xle_ast (k := 4) (r := r12) (L' := [(0, .ref a0), (1, .int xv1), (2, .int xv2), (3, .int xv3), (4, va_rf r12)]) rfl rfl rfl ?_
  refine xle_next (i := .iload_n 3) (x' := (46, [(0, .ref a0), (1, .int xv1), (2, .int xv2), (3, .int xv3), (4, va_rf r12)], [.int xv3], h11)) rfl rfl rfl ?_
  refine xle_ite (fun e0 => ?_) (fun e0 => ?_)
  · subst e0
    refine xle_tsw (x := 0) (off := 30) (q := 76) rfl rfl (by decide) (by decide) rfl ?_
    refine xle_ald (k := 4) (r := r12) rfl rfl rfl ?_
    refine xle_some (fun r_ => (78, [(0, .ref a0), (1, .int xv1), (2, .int xv2), (3, .int (0)), (4, va_rf r_)], [va_rf r_], h11)) (fun a13 => ?_)
    refine xle_getR (f := (1, 0, .object "CapKernel$Thing", 0)) rfl rfl rfl (fun r14 => ?_)
    refine xle_some (fun r_ => (81, [(0, .ref a0), (1, .int xv1), (2, .int xv2), (3, .int (0)), (4, .ref a13)], [va_rf r_], h11)) (fun a15 => ?_)
    refine xle_getI (f := (5, 0, .int, 0)) rfl rfl rfl (fun x16 => ?_)
    exact xle_end (i := .ireturn) rfl rfl rfl
  · refine xle_ite (fun e1 => ?_) (fun e1 => ?_)
    · subst e1
      refine xle_tsw (x := 1) (off := 39) (q := 85) rfl rfl (by decide) (by decide) rfl ?_
      refine xle_ald (k := 4) (r := r12) rfl rfl rfl ?_
      refine xle_some (fun r_ => (87, [(0, .ref a0), (1, .int xv1), (2, .int xv2), (3, .int (1)), (4, va_rf r_)], [va_rf r_], h11)) (fun a17 => ?_)
      refine xle_getI (f := (1, 1, .int, 0)) rfl rfl rfl (fun x18 => ?_)
      exact xle_end (i := .ireturn) rfl rfl rfl
    · refine xle_ite (fun e2 => ?_) (fun e2 => ?_)
      · subst e2
        refine xle_tsw (x := 2) (off := 45) (q := 91) rfl rfl (by decide) (by decide) rfl ?_
        refine xle_ald (k := 4) (r := r12) rfl rfl rfl ?_
        refine xle_some (fun r_ => (93, [(0, .ref a0), (1, .int xv1), (2, .int xv2), (3, .int (2)), (4, va_rf r_)], [va_rf r_], h11)) (fun a19 => ?_)
        refine xle_getI (f := (1, 2, .int, 0)) rfl rfl rfl (fun x20 => ?_)
        exact xle_end (i := .ireturn) rfl rfl rfl
      · refine xle_ite (fun e3 => ?_) (fun e3 => ?_)
        · subst e3
          refine xle_tsw (x := 3) (off := 51) (q := 97) rfl rfl (by decide) (by decide) rfl ?_
          refine xle_next (i := .aload_n 0) (x' := (98, [(0, .ref a0), (1, .int xv1), (2, .int xv2), (3, .int (3)), (4, va_rf r12)], [.ref a0], h11)) rfl rfl rfl ?_
          refine xle_ald (k := 4) (r := r12) rfl rfl rfl ?_
          refine xle_isO (i := .invokevirtual 247) (bq := a0) (ci := 0) (fo := (f_K_howManyCameOf z [.ref a0, va_rf r12] h11).bind (xback 100 [(0, .ref a0), (1, .int xv1), (2, .int xv2), (3, .int (3)), (4, va_rf r12)] [])) rfl rfl rfl (fun hs => ?_)
          refine xle_clI (t := []) rfl rfl hs (fun x22 h21 => ?_)
          exact xle_end (i := .ireturn) rfl rfl rfl
        · have hts : xv3.toInt < 0 ∨ 3 < xv3.toInt := by
            have t0 : ¬ xv3.toInt = 0 := fun w => e0 (Int32.toInt_inj.mp (w.trans (by decide)))
            have t1 : ¬ xv3.toInt = 1 := fun w => e1 (Int32.toInt_inj.mp (w.trans (by decide)))
            have t2 : ¬ xv3.toInt = 2 := fun w => e2 (Int32.toInt_inj.mp (w.trans (by decide)))
            have t3 : ¬ xv3.toInt = 3 := fun w => e3 (Int32.toInt_inj.mp (w.trans (by decide)))
            omega
          refine xle_tsd (q := 104) rfl rfl hts rfl ?_
          refine xle_ald (k := 4) (r := r12) rfl rfl rfl ?_
          refine xle_some (fun r_ => (106, [(0, .ref a0), (1, .int xv1), (2, .int xv2), (3, .int xv3), (4, va_rf r_)], [va_rf r_], h11)) (fun a23 => ?_)
          refine xle_getR (f := (1, 0, .object "CapKernel$Thing", 0)) rfl rfl rfl (fun r24 => ?_)
          refine xle_some (fun r_ => (109, [(0, .ref a0), (1, .int xv1), (2, .int xv2), (3, .int xv3), (4, .ref a23)], [va_rf r_], h11)) (fun a25 => ?_)
          refine xle_isO (i := .invokevirtual 250) (bq := a25) (ci := 5) (fo := (f_T_content z [.ref a25] h11).bind (xback 109 [(0, .ref a0), (1, .int xv1), (2, .int xv2), (3, .int xv3), (4, .ref a23)] [])) rfl rfl rfl (fun hs => ?_)
          refine xle_clI (t := []) rfl rfl hs (fun x27 h26 => ?_)
          exact xle_end (i := .ireturn) rfl rfl rfl
noncomputable def D_K_count_0 (z : xzs) (a0 : Nat) (p1 : Int32) (h : xH) : Option xR :=
  if p1 = 0 then
    (rdR h a0 0 6).bind fun r1 =>
    r1.bind fun a2 =>
    (xisO h a2 7).bind fun _ => xclI (f_A_size z [.ref a2] h) fun x4 h3 =>
    some (.inl (some (.int x4)), h3)
  else
    if p1 = 1 then
      (rdI h a0 0 3).bind fun x5 =>
      some (.inl (some (.int x5)), h)
    else
      if p1 = 2 then
        (rdI h a0 0 4).bind fun x6 =>
        some (.inl (some (.int x6)), h)
      else
        if p1 = 3 then
          (rdR h a0 0 2).bind fun r7 =>
          r7.bind fun a8 =>
          (rdR h a8 4 0).bind fun r9 =>
          r9.bind fun a10 =>
          (rdI h a10 3 1).bind fun x11 =>
          some (.inl (some (.int x11)), h)
        else
          if p1 = 4 then
            (rdR h a0 0 2).bind fun r12 =>
            r12.bind fun a13 =>
            (rdR h a13 4 0).bind fun r14 =>
            r14.bind fun a15 =>
            (rdI h a15 3 2).bind fun x16 =>
            some (.inl (some (.int x16)), h)
          else
            if p1 = 5 then
              (rdR h a0 0 2).bind fun r17 =>
              r17.bind fun a18 =>
              (xisO h a18 4).bind fun _ => xclI (f_F_howManyFree z [.ref a18] h) fun x20 h19 =>
              some (.inl (some (.int x20)), h19)
            else
              some (.inl (some (.int (Int32.ofInt (-1)))), h)
theorem E_K_count (z : xzs) (a0 : Nat) (p1 : Int32) (h : xH) : xle (D_K_count_0 z a0 p1 h) (xfun (K_K_count z) 2 [.ref a0, .int p1] h) := by
  unfold D_K_count_0
  refine xle_entry (Nat.le_of_ble_eq_true rfl) (xal_c (xca_a _) (xal_c (xca_i _) (rfl))) ?_
  show xle _ (xev (K_K_count z) (0, [(0, .ref a0), (1, .int p1)], [], h))
  refine xle_next (i := .iload_n 1) (x' := (1, [(0, .ref a0), (1, .int p1)], [.int p1], h)) rfl rfl rfl ?_
  refine xle_ite (fun e0 => ?_) (fun e0 => ?_)
  · subst e0
    refine xle_tsw (x := 0) (off := 39) (q := 40) rfl rfl (by decide) (by decide) rfl ?_
    refine xle_next (i := .aload_n 0) (x' := (41, [(0, .ref a0), (1, .int (0))], [.ref a0], h)) rfl rfl rfl ?_
    refine xle_getR (f := (0, 6, .object "java/util/ArrayList", 0)) rfl rfl rfl (fun r1 => ?_)
    refine xle_some (fun r_ => (44, [(0, .ref a0), (1, .int (0))], [va_rf r_], h)) (fun a2 => ?_)
    refine xle_isO (i := .invokevirtual 253) (bq := a2) (ci := 7) (fo := (f_A_size z [.ref a2] h).bind (xback 44 [(0, .ref a0), (1, .int (0))] [])) rfl rfl rfl (fun hs => ?_)
    refine xle_clI (t := []) rfl rfl hs (fun x4 h3 => ?_)
    exact xle_end (i := .ireturn) rfl rfl rfl
  · refine xle_ite (fun e1 => ?_) (fun e1 => ?_)
    · subst e1
      refine xle_tsw (x := 1) (off := 47) (q := 48) rfl rfl (by decide) (by decide) rfl ?_
      refine xle_next (i := .aload_n 0) (x' := (49, [(0, .ref a0), (1, .int (1))], [.ref a0], h)) rfl rfl rfl ?_
      refine xle_getI (f := (0, 3, .int, 1)) rfl rfl rfl (fun x5 => ?_)
      exact xle_end (i := .ireturn) rfl rfl rfl
    · refine xle_ite (fun e2 => ?_) (fun e2 => ?_)
      · subst e2
        refine xle_tsw (x := 2) (off := 52) (q := 53) rfl rfl (by decide) (by decide) rfl ?_
        refine xle_next (i := .aload_n 0) (x' := (54, [(0, .ref a0), (1, .int (2))], [.ref a0], h)) rfl rfl rfl ?_
        refine xle_getI (f := (0, 4, .int, 1)) rfl rfl rfl (fun x6 => ?_)
        exact xle_end (i := .ireturn) rfl rfl rfl
      · refine xle_ite (fun e3 => ?_) (fun e3 => ?_)
        · subst e3
          refine xle_tsw (x := 3) (off := 57) (q := 58) rfl rfl (by decide) (by decide) rfl ?_
          refine xle_next (i := .aload_n 0) (x' := (59, [(0, .ref a0), (1, .int (3))], [.ref a0], h)) rfl rfl rfl ?_
          refine xle_getR (f := (0, 2, .object "CapKernel$FileServer", 0)) rfl rfl rfl (fun r7 => ?_)
          refine xle_some (fun r_ => (62, [(0, .ref a0), (1, .int (3))], [va_rf r_], h)) (fun a8 => ?_)
          refine xle_getR (f := (4, 0, .object "CapKernel$Driver", 0)) rfl rfl rfl (fun r9 => ?_)
          refine xle_some (fun r_ => (65, [(0, .ref a0), (1, .int (3))], [va_rf r_], h)) (fun a10 => ?_)
          refine xle_getI (f := (3, 1, .int, 1)) rfl rfl rfl (fun x11 => ?_)
          exact xle_end (i := .ireturn) rfl rfl rfl
        · refine xle_ite (fun e4 => ?_) (fun e4 => ?_)
          · subst e4
            refine xle_tsw (x := 4) (off := 68) (q := 69) rfl rfl (by decide) (by decide) rfl ?_
            refine xle_next (i := .aload_n 0) (x' := (70, [(0, .ref a0), (1, .int (4))], [.ref a0], h)) rfl rfl rfl ?_
            refine xle_getR (f := (0, 2, .object "CapKernel$FileServer", 0)) rfl rfl rfl (fun r12 => ?_)
            refine xle_some (fun r_ => (73, [(0, .ref a0), (1, .int (4))], [va_rf r_], h)) (fun a13 => ?_)
            refine xle_getR (f := (4, 0, .object "CapKernel$Driver", 0)) rfl rfl rfl (fun r14 => ?_)
            refine xle_some (fun r_ => (76, [(0, .ref a0), (1, .int (4))], [va_rf r_], h)) (fun a15 => ?_)
            refine xle_getI (f := (3, 2, .int, 1)) rfl rfl rfl (fun x16 => ?_)
            exact xle_end (i := .ireturn) rfl rfl rfl
          · refine xle_ite (fun e5 => ?_) (fun e5 => ?_)
            · subst e5
              refine xle_tsw (x := 5) (off := 79) (q := 80) rfl rfl (by decide) (by decide) rfl ?_
              refine xle_next (i := .aload_n 0) (x' := (81, [(0, .ref a0), (1, .int (5))], [.ref a0], h)) rfl rfl rfl ?_
              refine xle_getR (f := (0, 2, .object "CapKernel$FileServer", 0)) rfl rfl rfl (fun r17 => ?_)
              refine xle_some (fun r_ => (84, [(0, .ref a0), (1, .int (5))], [va_rf r_], h)) (fun a18 => ?_)
              refine xle_isO (i := .invokevirtual 270) (bq := a18) (ci := 4) (fo := (f_F_howManyFree z [.ref a18] h).bind (xback 84 [(0, .ref a0), (1, .int (5))] [])) rfl rfl rfl (fun hs => ?_)
              refine xle_clI (t := []) rfl rfl hs (fun x20 h19 => ?_)
              exact xle_end (i := .ireturn) rfl rfl rfl
            · have hts : p1.toInt < 0 ∨ 5 < p1.toInt := by
                have t0 : ¬ p1.toInt = 0 := fun w => e0 (Int32.toInt_inj.mp (w.trans (by decide)))
                have t1 : ¬ p1.toInt = 1 := fun w => e1 (Int32.toInt_inj.mp (w.trans (by decide)))
                have t2 : ¬ p1.toInt = 2 := fun w => e2 (Int32.toInt_inj.mp (w.trans (by decide)))
                have t3 : ¬ p1.toInt = 3 := fun w => e3 (Int32.toInt_inj.mp (w.trans (by decide)))
                have t4 : ¬ p1.toInt = 4 := fun w => e4 (Int32.toInt_inj.mp (w.trans (by decide)))
                have t5 : ¬ p1.toInt = 5 := fun w => e5 (Int32.toInt_inj.mp (w.trans (by decide)))
                omega
              refine xle_tsd (q := 88) rfl rfl hts rfl ?_
              refine xle_next (i := .iconst (-1)) (x' := (89, [(0, .ref a0), (1, .int p1)], [.int (Int32.ofInt (-1))], h)) rfl rfl rfl ?_
              exact xle_end (i := .ireturn) rfl rfl rfl
