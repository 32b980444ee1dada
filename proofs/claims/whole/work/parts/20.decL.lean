noncomputable def D_L_new_0 (z : xzs) (a0 : Nat) (p1 : Int32) (h : xH) : Option xR :=
  (xwr h a0 2 0 (.int p1)).bind fun h1 =>
  xlet (xn h1) (xpush h1 11 (.inr (5, [.int 0, .int 0, .int 0, .null, .int 0, .int 0, .int 0, .int 0, .int 0, .int 0, .null]))) fun a2 h3 =>
  xclC (f_T_new z [.ref a2, .int (Int32.ofInt 3), .int (Int32.ofInt 0), .int (Int32.ofInt 0)] h3) fun h4 =>
  (xwr h4 a0 2 1 (va_rf (some a2))).bind fun h5 =>
  (xwr h5 a0 2 7 (.int (Int32.ofInt 1))).bind fun h6 =>
  some (.inl none, h6)
theorem E_L_new (z : xzs) (a0 : Nat) (p1 : Int32) (h : xH) : xle (D_L_new_0 z a0 p1 h) (xfun (K_L_new z) 2 [.ref a0, .int p1] h) := by
  unfold D_L_new_0
  refine xle_entry (Nat.le_of_ble_eq_true rfl) (xal_c (xca_a _) (xal_c (xca_i _) (rfl))) ?_
  show xle _ (xev (K_L_new z) (0, [(0, .ref a0), (1, .int p1)], [], h))
  refine xle_next (i := .aload_n 0) (x' := (1, [(0, .ref a0), (1, .int p1)], [.ref a0], h)) rfl rfl rfl ?_
  refine xle_next (i := .invokespecial 3) (x' := (4, [(0, .ref a0), (1, .int p1)], [], h)) rfl rfl rfl ?_
  refine xle_next (i := .aload_n 0) (x' := (5, [(0, .ref a0), (1, .int p1)], [.ref a0], h)) rfl rfl rfl ?_
  refine xle_next (i := .iload_n 1) (x' := (6, [(0, .ref a0), (1, .int p1)], [.int p1, .ref a0], h)) rfl rfl rfl ?_
  refine xle_put (v := .int p1) (f := (2, 0, .int, 2)) rfl rfl rfl ⟨by decide, rfl, rfl⟩ (fun h1 => ?_)
  refine xle_next (i := .aload_n 0) (x' := (10, [(0, .ref a0), (1, .int p1)], [.ref a0], h1)) rfl rfl rfl ?_
  refine xle_new (i := .new 15) (pc' := 13) (h' := xpush h1 11 (.inr (5, [.int 0, .int 0, .int 0, .null, .int 0, .int 0, .int 0, .int 0, .int 0, .int 0, .null]))) rfl rfl rfl (fun a2 h3 => ?_)
  refine xle_next (i := .dup) (x' := (14, [(0, .ref a0), (1, .int p1)], [.ref a2, .ref a2, .ref a0], h3)) rfl rfl rfl ?_
  refine xle_next (i := .iconst 3) (x' := (15, [(0, .ref a0), (1, .int p1)], [.int (Int32.ofInt 3), .ref a2, .ref a2, .ref a0], h3)) rfl rfl rfl ?_
  refine xle_next (i := .iconst 0) (x' := (16, [(0, .ref a0), (1, .int p1)], [.int (Int32.ofInt 0), .int (Int32.ofInt 3), .ref a2, .ref a2, .ref a0], h3)) rfl rfl rfl ?_
  refine xle_next (i := .iconst 0) (x' := (17, [(0, .ref a0), (1, .int p1)], [.int (Int32.ofInt 0), .int (Int32.ofInt 0), .int (Int32.ofInt 3), .ref a2, .ref a2, .ref a0], h3)) rfl rfl rfl ?_
  refine xle_clC (i := .invokespecial 17) (fo := f_T_new z [.ref a2, .int (Int32.ofInt 3), .int (Int32.ofInt 0), .int (Int32.ofInt 0)] h3) (t := [.ref a2, .ref a0]) rfl rfl rfl (fun h4 => ?_)
  refine xle_put (v := va_rf (some a2)) (f := (2, 1, .object "CapKernel$Thing", 2)) rfl rfl rfl ⟨by decide, xfit_obj _ _⟩ (fun h5 => ?_)
  refine xle_next (i := .aload_n 0) (x' := (24, [(0, .ref a0), (1, .int p1)], [.ref a0], h5)) rfl rfl rfl ?_
  refine xle_next (i := .iconst 1) (x' := (25, [(0, .ref a0), (1, .int p1)], [.int (Int32.ofInt 1), .ref a0], h5)) rfl rfl rfl ?_
  refine xle_put (v := .int (Int32.ofInt 1)) (f := (2, 7, .int, 1)) rfl rfl rfl ⟨by decide, rfl, rfl⟩ (fun h6 => ?_)
  exact xle_end (i := .return_) rfl rfl rfl
noncomputable def B_L_comesBefore_33 (z : xzs)  (h : xH) : Option xR := xev (K_L_comesBefore z) (33, [], [], h)
noncomputable def B_L_comesBefore_37 (z : xzs)  (h : xH) : Option xR := xev (K_L_comesBefore z) (37, [], [], h)
noncomputable def B_L_comesBefore_38 (z : xzs) (xs0 : Int32) (h : xH) : Option xR := xev (K_L_comesBefore z) (38, [], [.int xs0], h)
noncomputable def D_L_comesBefore_0 (z : xzs) (a0 : Nat) (p1 : Option Nat) (h : xH) : Option xR :=
  (rdI h a0 2 7).bind fun x1 =>
  p1.bind fun a2 =>
  (rdI h a2 2 7).bind fun x3 =>
  if x3 < x1 then
    B_L_comesBefore_33 z h
  else
    (rdI h a0 2 7).bind fun x4 =>
    (rdI h a2 2 7).bind fun x5 =>
    if ¬ x4 = x5 then
      B_L_comesBefore_37 z h
    else
      (rdI h a0 2 8).bind fun x6 =>
      (rdI h a2 2 8).bind fun x7 =>
      if x7 ≤ x6 then
        B_L_comesBefore_37 z h
      else
        B_L_comesBefore_33 z h
theorem E_L_comesBefore (z : xzs) (a0 : Nat) (p1 : Option Nat) (h : xH) : xle (D_L_comesBefore_0 z a0 p1 h) (xfun (K_L_comesBefore z) 2 [.ref a0, va_rf p1] h) := by
  unfold D_L_comesBefore_0
  refine xle_entry (Nat.le_of_ble_eq_true rfl) (xal_c (xca_a _) (xal_c (xca_r _) (rfl))) ?_
  show xle _ (xev (K_L_comesBefore z) (0, [(0, .ref a0), (1, va_rf p1)], [], h))
  refine xle_next (i := .aload_n 0) (x' := (1, [(0, .ref a0), (1, va_rf p1)], [.ref a0], h)) rfl rfl rfl ?_
  refine xle_getI (f := (2, 7, .int, 1)) rfl rfl rfl (fun x1 => ?_)
  refine xle_aldn (k := 1) (r := p1) rfl rfl rfl ?_
  refine xle_some (fun r_ => (5, [(0, .ref a0), (1, va_rf r_)], [va_rf r_, .int x1], h)) (fun a2 => ?_)
  refine xle_getI (f := (2, 7, .int, 1)) rfl rfl rfl (fun x3 => ?_)
  refine xle_icmp (cd := .gt) (q := 33) rfl rfl rfl xc_gt (fun _ => ?_) (fun _ => ?_)
  · exact xle_jump rfl
  · refine xle_next (i := .aload_n 0) (x' := (12, [(0, .ref a0), (1, .ref a2)], [.ref a0], h)) rfl rfl rfl ?_
    refine xle_getI (f := (2, 7, .int, 1)) rfl rfl rfl (fun x4 => ?_)
    refine xle_next (i := .aload_n 1) (x' := (16, [(0, .ref a0), (1, .ref a2)], [.ref a2, .int x4], h)) rfl rfl rfl ?_
    refine xle_getI (f := (2, 7, .int, 1)) rfl rfl rfl (fun x5 => ?_)
    refine xle_icmp (cd := .ne) (q := 37) rfl rfl rfl xc_ne (fun _ => ?_) (fun _ => ?_)
    · exact xle_jump rfl
    · refine xle_next (i := .aload_n 0) (x' := (23, [(0, .ref a0), (1, .ref a2)], [.ref a0], h)) rfl rfl rfl ?_
      refine xle_getI (f := (2, 8, .int, 1)) rfl rfl rfl (fun x6 => ?_)
      refine xle_next (i := .aload_n 1) (x' := (27, [(0, .ref a0), (1, .ref a2)], [.ref a2, .int x6], h)) rfl rfl rfl ?_
      refine xle_getI (f := (2, 8, .int, 1)) rfl rfl rfl (fun x7 => ?_)
      refine xle_icmp (cd := .ge) (q := 37) rfl rfl rfl xc_ge (fun _ => ?_) (fun _ => ?_)
      · exact xle_jump rfl
      · exact xle_jump rfl
noncomputable def D_L_comesBefore_33 (z : xzs)  (h : xH) : Option xR :=
  B_L_comesBefore_38 z (Int32.ofInt 1) h
theorem E_L_comesBefore_33 (z : xzs)  (h : xH) : xle (D_L_comesBefore_33 z  h) (B_L_comesBefore_33 z  h) := by
  unfold D_L_comesBefore_33 B_L_comesBefore_33
  refine xle_next (i := .iconst 1) (x' := (34, [], [.int (Int32.ofInt 1)], h)) rfl rfl rfl ?_
  refine xle_next (i := .goto 4) (x' := (38, [], [.int (Int32.ofInt 1)], h)) rfl rfl rfl ?_
  exact xle_jump rfl
noncomputable def D_L_comesBefore_37 (z : xzs)  (h : xH) : Option xR :=
  B_L_comesBefore_38 z (Int32.ofInt 0) h
theorem E_L_comesBefore_37 (z : xzs)  (h : xH) : xle (D_L_comesBefore_37 z  h) (B_L_comesBefore_37 z  h) := by
  unfold D_L_comesBefore_37 B_L_comesBefore_37
  refine xle_next (i := .iconst 0) (x' := (38, [], [.int (Int32.ofInt 0)], h)) rfl rfl rfl ?_
  exact xle_jump rfl
noncomputable def D_L_comesBefore_38 (z : xzs) (xs0 : Int32) (h : xH) : Option xR :=
  if xs0 = 0 ∨ xs0 = 1 then some (.inl (some (.int xs0)), h) else none
theorem E_L_comesBefore_38 (z : xzs) (xs0 : Int32) (h : xH) : xle (D_L_comesBefore_38 z xs0 h) (B_L_comesBefore_38 z xs0 h) := by
  unfold D_L_comesBefore_38 B_L_comesBefore_38
  exact xle_zret rfl rfl rfl
noncomputable def D_L_prepare_0 (z : xzs) (a0 : Nat) (p1 : Int32) (p2 : Int32) (p3 : Option Nat) (h : xH) : Option xR :=
  (xwr h a0 2 11 (.int p1)).bind fun h1 =>
  (xwr h1 a0 2 12 (.int p2)).bind fun h2 =>
  (xwr h2 a0 2 13 (va_rf p3)).bind fun h3 =>
  some (.inl none, h3)
theorem E_L_prepare (z : xzs) (a0 : Nat) (p1 : Int32) (p2 : Int32) (p3 : Option Nat) (h : xH) : xle (D_L_prepare_0 z a0 p1 p2 p3 h) (xfun (K_L_prepare z) 4 [.ref a0, .int p1, .int p2, va_rf p3] h) := by
  unfold D_L_prepare_0
  refine xle_entry (Nat.le_of_ble_eq_true rfl) (xal_c (xca_a _) (xal_c (xca_i _) (xal_c (xca_i _) (xal_c (xca_r _) (rfl))))) ?_
  show xle _ (xev (K_L_prepare z) (0, [(0, .ref a0), (1, .int p1), (2, .int p2), (3, va_rf p3)], [], h))
  refine xle_next (i := .aload_n 0) (x' := (1, [(0, .ref a0), (1, .int p1), (2, .int p2), (3, va_rf p3)], [.ref a0], h)) rfl rfl rfl ?_
  refine xle_next (i := .iload_n 1) (x' := (2, [(0, .ref a0), (1, .int p1), (2, .int p2), (3, va_rf p3)], [.int p1, .ref a0], h)) rfl rfl rfl ?_
  refine xle_put (v := .int p1) (f := (2, 11, .int, 1)) rfl rfl rfl ⟨by decide, rfl, rfl⟩ (fun h1 => ?_)
  refine xle_next (i := .aload_n 0) (x' := (6, [(0, .ref a0), (1, .int p1), (2, .int p2), (3, va_rf p3)], [.ref a0], h1)) rfl rfl rfl ?_
  refine xle_next (i := .iload_n 2) (x' := (7, [(0, .ref a0), (1, .int p1), (2, .int p2), (3, va_rf p3)], [.int p2, .ref a0], h1)) rfl rfl rfl ?_
  refine xle_put (v := .int p2) (f := (2, 12, .int, 1)) rfl rfl rfl ⟨by decide, rfl, rfl⟩ (fun h2 => ?_)
  refine xle_next (i := .aload_n 0) (x' := (11, [(0, .ref a0), (1, .int p1), (2, .int p2), (3, va_rf p3)], [.ref a0], h2)) rfl rfl rfl ?_
  refine xle_aldn (k := 3) (r := p3) rfl rfl rfl ?_
  refine xle_put (v := va_rf p3) (f := (2, 13, .object "CapKernel$Capability", 1)) rfl rfl rfl ⟨by decide, xfit_obj _ _⟩ (fun h3 => ?_)
  exact xle_end (i := .return_) rfl rfl rfl
noncomputable def D_L_hear_0 (z : xzs) (a0 : Nat) (p1 : Int32) (p2 : Int32) (p3 : Int32) (h : xH) : Option xR :=
  (xwr h a0 2 3 (.int (Int32.ofInt 0))).bind fun h1 =>
  (xwr h1 a0 2 4 (.int p1)).bind fun h2 =>
  (xwr h2 a0 2 5 (.int p2)).bind fun h3 =>
  (xwr h3 a0 2 6 (.int p3)).bind fun h4 =>
  some (.inl none, h4)
theorem E_L_hear (z : xzs) (a0 : Nat) (p1 : Int32) (p2 : Int32) (p3 : Int32) (h : xH) : xle (D_L_hear_0 z a0 p1 p2 p3 h) (xfun (K_L_hear z) 4 [.ref a0, .int p1, .int p2, .int p3] h) := by
  unfold D_L_hear_0
  refine xle_entry (Nat.le_of_ble_eq_true rfl) (xal_c (xca_a _) (xal_c (xca_i _) (xal_c (xca_i _) (xal_c (xca_i _) (rfl))))) ?_
  show xle _ (xev (K_L_hear z) (0, [(0, .ref a0), (1, .int p1), (2, .int p2), (3, .int p3)], [], h))
  refine xle_next (i := .aload_n 0) (x' := (1, [(0, .ref a0), (1, .int p1), (2, .int p2), (3, .int p3)], [.ref a0], h)) rfl rfl rfl ?_
  refine xle_next (i := .iconst 0) (x' := (2, [(0, .ref a0), (1, .int p1), (2, .int p2), (3, .int p3)], [.int (Int32.ofInt 0), .ref a0], h)) rfl rfl rfl ?_
  refine xle_put (v := .int (Int32.ofInt 0)) (f := (2, 3, .int, 1)) rfl rfl rfl ⟨by decide, rfl, rfl⟩ (fun h1 => ?_)
  refine xle_next (i := .aload_n 0) (x' := (6, [(0, .ref a0), (1, .int p1), (2, .int p2), (3, .int p3)], [.ref a0], h1)) rfl rfl rfl ?_
  refine xle_next (i := .iload_n 1) (x' := (7, [(0, .ref a0), (1, .int p1), (2, .int p2), (3, .int p3)], [.int p1, .ref a0], h1)) rfl rfl rfl ?_
  refine xle_put (v := .int p1) (f := (2, 4, .int, 1)) rfl rfl rfl ⟨by decide, rfl, rfl⟩ (fun h2 => ?_)
  refine xle_next (i := .aload_n 0) (x' := (11, [(0, .ref a0), (1, .int p1), (2, .int p2), (3, .int p3)], [.ref a0], h2)) rfl rfl rfl ?_
  refine xle_next (i := .iload_n 2) (x' := (12, [(0, .ref a0), (1, .int p1), (2, .int p2), (3, .int p3)], [.int p2, .ref a0], h2)) rfl rfl rfl ?_
  refine xle_put (v := .int p2) (f := (2, 5, .int, 1)) rfl rfl rfl ⟨by decide, rfl, rfl⟩ (fun h3 => ?_)
  refine xle_next (i := .aload_n 0) (x' := (16, [(0, .ref a0), (1, .int p1), (2, .int p2), (3, .int p3)], [.ref a0], h3)) rfl rfl rfl ?_
  refine xle_next (i := .iload_n 3) (x' := (17, [(0, .ref a0), (1, .int p1), (2, .int p2), (3, .int p3)], [.int p3, .ref a0], h3)) rfl rfl rfl ?_
  refine xle_put (v := .int p3) (f := (2, 6, .int, 1)) rfl rfl rfl ⟨by decide, rfl, rfl⟩ (fun h4 => ?_)
  exact xle_end (i := .return_) rfl rfl rfl
