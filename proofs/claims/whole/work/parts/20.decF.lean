noncomputable def D_F_new_0 (z : xzs) (a0 : Nat) (h : xH) : Option xR :=
  xlet (xn h) (xpush h 3 (.inr (3, [.null, .int 0, .int 0]))) fun a1 h2 =>
  xclC (f_D_new z [.ref a1] h2) fun h3 =>
  (xwr h3 a0 4 0 (va_rf (some a1))).bind fun h4 =>
  (xnarI h4 1 ((Int8.ofInt 6).toInt32)).bind fun qa5 => xlet qa5.1 qa5.2 fun a5 h6 =>
  (xwr h6 a0 4 1 (va_rf (some a5))).bind fun h7 =>
  (xnarI h7 0 ((Int8.ofInt 6).toInt32)).bind fun qa8 => xlet qa8.1 qa8.2 fun a8 h9 =>
  (xwr h9 a0 4 2 (va_rf (some a8))).bind fun h10 =>
  (xnarI h10 0 ((Int8.ofInt 6).toInt32)).bind fun qa11 => xlet qa11.1 qa11.2 fun a11 h12 =>
  (xwr h12 a0 4 3 (va_rf (some a11))).bind fun h13 =>
  (xnarI h13 0 ((Int8.ofInt 8).toInt32)).bind fun qa14 => xlet qa14.1 qa14.2 fun a14 h15 =>
  (xwr h15 a0 4 4 (va_rf (some a14))).bind fun h16 =>
  some (.inl none, h16)
theorem E_F_new (z : xzs) (a0 : Nat) (h : xH) : xle (D_F_new_0 z a0 h) (xfun (K_F_new z) 1 [.ref a0] h) := by
  unfold D_F_new_0
  refine xle_entry (Nat.le_of_ble_eq_true rfl) (xal_c (xca_a _) (rfl)) ?_
  show xle _ (xev (K_F_new z) (0, [(0, .ref a0)], [], h))
  refine xle_next (i := .aload_n 0) (x' := (1, [(0, .ref a0)], [.ref a0], h)) rfl rfl rfl ?_
  refine xle_next (i := .invokespecial 1) (x' := (4, [(0, .ref a0)], [], h)) rfl rfl rfl ?_
  refine xle_next (i := .aload_n 0) (x' := (5, [(0, .ref a0)], [.ref a0], h)) rfl rfl rfl ?_
  refine xle_new (i := .new 7) (pc' := 8) (h' := xpush h 3 (.inr (3, [.null, .int 0, .int 0]))) rfl rfl rfl (fun a1 h2 => ?_)
  refine xle_next (i := .dup) (x' := (9, [(0, .ref a0)], [.ref a1, .ref a1, .ref a0], h2)) rfl rfl rfl ?_
  refine xle_clC (i := .invokespecial 9) (fo := f_D_new z [.ref a1] h2) (t := [.ref a1, .ref a0]) rfl rfl rfl (fun h3 => ?_)
  refine xle_put (v := va_rf (some a1)) (f := (4, 0, .object "CapKernel$Driver", 2)) rfl rfl rfl ⟨by decide, xfit_obj _ _⟩ (fun h4 => ?_)
  refine xle_next (i := .aload_n 0) (x' := (16, [(0, .ref a0)], [.ref a0], h4)) rfl rfl rfl ?_
  refine xle_next (i := .bipush 6) (x' := (18, [(0, .ref a0)], [.int ((Int8.ofInt 6).toInt32), .ref a0], h4)) rfl rfl rfl ?_
  refine xle_newZ rfl rfl (fun a5 h6 => ?_)
  refine xle_put (v := va_rf (some a5)) (f := (4, 1, .array .boolean, 2)) rfl rfl rfl ⟨by decide, xfit_arr _ _⟩ (fun h7 => ?_)
  refine xle_next (i := .aload_n 0) (x' := (24, [(0, .ref a0)], [.ref a0], h7)) rfl rfl rfl ?_
  refine xle_next (i := .bipush 6) (x' := (26, [(0, .ref a0)], [.int ((Int8.ofInt 6).toInt32), .ref a0], h7)) rfl rfl rfl ?_
  refine xle_newI rfl rfl (fun a8 h9 => ?_)
  refine xle_put (v := va_rf (some a8)) (f := (4, 2, .array .int, 2)) rfl rfl rfl ⟨by decide, xfit_arr _ _⟩ (fun h10 => ?_)
  refine xle_next (i := .aload_n 0) (x' := (32, [(0, .ref a0)], [.ref a0], h10)) rfl rfl rfl ?_
  refine xle_next (i := .bipush 6) (x' := (34, [(0, .ref a0)], [.int ((Int8.ofInt 6).toInt32), .ref a0], h10)) rfl rfl rfl ?_
  refine xle_newI rfl rfl (fun a11 h12 => ?_)
  refine xle_put (v := va_rf (some a11)) (f := (4, 3, .array .int, 2)) rfl rfl rfl ⟨by decide, xfit_arr _ _⟩ (fun h13 => ?_)
  refine xle_next (i := .aload_n 0) (x' := (40, [(0, .ref a0)], [.ref a0], h13)) rfl rfl rfl ?_
  refine xle_next (i := .bipush 8) (x' := (42, [(0, .ref a0)], [.int ((Int8.ofInt 8).toInt32), .ref a0], h13)) rfl rfl rfl ?_
  refine xle_newI rfl rfl (fun a14 h15 => ?_)
  refine xle_put (v := va_rf (some a14)) (f := (4, 4, .array .int, 2)) rfl rfl rfl ⟨by decide, xfit_arr _ _⟩ (fun h16 => ?_)
  exact xle_end (i := .return_) rfl rfl rfl
noncomputable def B_F_blockOf_2 (z : xzs) (a0 : Nat) (xv1 : Int32) (xv2 : Int32) (xv3 : Int32) (h : xH) : Option xR := xev (K_F_blockOf z) (2, [(0, .ref a0), (1, .int xv1), (2, .int xv2), (3, .int xv3)], [], h)
noncomputable def B_F_blockOf_39 (z : xzs) (a0 : Nat) (xv1 : Int32) (xv2 : Int32) (xv3 : Int32) (h : xH) : Option xR := xev (K_F_blockOf z) (39, [(0, .ref a0), (1, .int xv1), (2, .int xv2), (3, .int xv3)], [], h)
noncomputable def D_F_blockOf_0 (z : xzs) (a0 : Nat) (p1 : Int32) (p2 : Int32) (h : xH) : Option xR :=
  B_F_blockOf_2 z a0 p1 p2 (Int32.ofInt 0) h
theorem E_F_blockOf (z : xzs) (a0 : Nat) (p1 : Int32) (p2 : Int32) (h : xH) : xle (D_F_blockOf_0 z a0 p1 p2 h) (xfun (K_F_blockOf z) 4 [.ref a0, .int p1, .int p2] h) := by
  unfold D_F_blockOf_0
  refine xle_entry (Nat.le_of_ble_eq_true rfl) (xal_c (xca_a _) (xal_c (xca_i _) (xal_c (xca_i _) (rfl)))) ?_
  show xle _ (xev (K_F_blockOf z) (0, [(0, .ref a0), (1, .int p1), (2, .int p2)], [], h))
  refine xle_next (i := .iconst 0) (x' := (1, [(0, .ref a0), (1, .int p1), (2, .int p2)], [.int (Int32.ofInt 0)], h)) rfl rfl rfl ?_
  refine xle_next (i := .istore_n 3) (x' := (2, [(0, .ref a0), (1, .int p1), (2, .int p2), (3, .int (Int32.ofInt 0))], [], h)) rfl rfl rfl ?_
  exact xle_jump rfl
noncomputable def D_F_blockOf_2 (z : xzs) (a0 : Nat) (xv1 : Int32) (xv2 : Int32) (xv3 : Int32) (h : xH) : Option xR :=
  if ((Int8.ofInt 6).toInt32) ≤ xv3 then
    some (.inl (some (.int (Int32.ofInt (-1)))), h)
  else
    (rdR h a0 4 1).bind fun r1 =>
    r1.bind fun a2 =>
    (rdA 1 h a2 xv3).bind fun x3 =>
    if x3 = 0 then
      B_F_blockOf_39 z a0 xv1 xv2 xv3 h
    else
      (rdR h a0 4 2).bind fun r4 =>
      r4.bind fun a5 =>
      (rdA 0 h a5 xv3).bind fun x6 =>
      if ¬ x6 = xv1 then
        B_F_blockOf_39 z a0 xv1 xv2 xv3 h
      else
        (rdR h a0 4 3).bind fun r7 =>
        r7.bind fun a8 =>
        (rdA 0 h a8 xv3).bind fun x9 =>
        if ¬ x9 = xv2 then
          B_F_blockOf_39 z a0 xv1 xv2 xv3 h
        else
          some (.inl (some (.int xv3)), h)
theorem E_F_blockOf_2 (z : xzs) (a0 : Nat) (xv1 : Int32) (xv2 : Int32) (xv3 : Int32) (h : xH) : xle (D_F_blockOf_2 z a0 xv1 xv2 xv3 h) (B_F_blockOf_2 z a0 xv1 xv2 xv3 h) := by
  unfold D_F_blockOf_2 B_F_blockOf_2
  refine xle_next (i := .iload_n 3) (x' := (3, [(0, .ref a0), (1, .int xv1), (2, .int xv2), (3, .int xv3)], [.int xv3], h)) rfl rfl rfl ?_
  refine xle_next (i := .bipush 6) (x' := (5, [(0, .ref a0), (1, .int xv1), (2, .int xv2), (3, .int xv3)], [.int ((Int8.ofInt 6).toInt32), .int xv3], h)) rfl rfl rfl ?_
  refine xle_icmp (cd := .ge) (q := 45) rfl rfl rfl xc_ge (fun _ => ?_) (fun _ => ?_)
  · refine xle_next (i := .iconst (-1)) (x' := (46, [(0, .ref a0), (1, .int xv1), (2, .int xv2), (3, .int xv3)], [.int (Int32.ofInt (-1))], h)) rfl rfl rfl ?_
    exact xle_end (i := .ireturn) rfl rfl rfl
  · refine xle_next (i := .aload_n 0) (x' := (9, [(0, .ref a0), (1, .int xv1), (2, .int xv2), (3, .int xv3)], [.ref a0], h)) rfl rfl rfl ?_
    refine xle_getR (f := (4, 1, .array .boolean, 0)) rfl rfl rfl (fun r1 => ?_)
    refine xle_next (i := .iload_n 3) (x' := (13, [(0, .ref a0), (1, .int xv1), (2, .int xv2), (3, .int xv3)], [.int xv3, va_rf r1], h)) rfl rfl rfl ?_
    refine xle_some (fun r_ => (13, [(0, .ref a0), (1, .int xv1), (2, .int xv2), (3, .int xv3)], [.int xv3, va_rf r_], h)) (fun a2 => ?_)
    refine xle_bald rfl rfl (fun x3 => ?_)
    refine xle_if (cd := .eq) (q := 39) rfl rfl rfl xc_eq (fun _ => ?_) (fun _ => ?_)
    · exact xle_jump rfl
    · refine xle_next (i := .aload_n 0) (x' := (18, [(0, .ref a0), (1, .int xv1), (2, .int xv2), (3, .int xv3)], [.ref a0], h)) rfl rfl rfl ?_
      refine xle_getR (f := (4, 2, .array .int, 0)) rfl rfl rfl (fun r4 => ?_)
      refine xle_next (i := .iload_n 3) (x' := (22, [(0, .ref a0), (1, .int xv1), (2, .int xv2), (3, .int xv3)], [.int xv3, va_rf r4], h)) rfl rfl rfl ?_
      refine xle_some (fun r_ => (22, [(0, .ref a0), (1, .int xv1), (2, .int xv2), (3, .int xv3)], [.int xv3, va_rf r_], h)) (fun a5 => ?_)
      refine xle_iald rfl rfl (fun x6 => ?_)
      refine xle_next (i := .iload_n 1) (x' := (24, [(0, .ref a0), (1, .int xv1), (2, .int xv2), (3, .int xv3)], [.int xv1, .int x6], h)) rfl rfl rfl ?_
      refine xle_icmp (cd := .ne) (q := 39) rfl rfl rfl xc_ne (fun _ => ?_) (fun _ => ?_)
      · exact xle_jump rfl
      · refine xle_next (i := .aload_n 0) (x' := (28, [(0, .ref a0), (1, .int xv1), (2, .int xv2), (3, .int xv3)], [.ref a0], h)) rfl rfl rfl ?_
        refine xle_getR (f := (4, 3, .array .int, 0)) rfl rfl rfl (fun r7 => ?_)
        refine xle_next (i := .iload_n 3) (x' := (32, [(0, .ref a0), (1, .int xv1), (2, .int xv2), (3, .int xv3)], [.int xv3, va_rf r7], h)) rfl rfl rfl ?_
        refine xle_some (fun r_ => (32, [(0, .ref a0), (1, .int xv1), (2, .int xv2), (3, .int xv3)], [.int xv3, va_rf r_], h)) (fun a8 => ?_)
        refine xle_iald rfl rfl (fun x9 => ?_)
        refine xle_next (i := .iload_n 2) (x' := (34, [(0, .ref a0), (1, .int xv1), (2, .int xv2), (3, .int xv3)], [.int xv2, .int x9], h)) rfl rfl rfl ?_
        refine xle_icmp (cd := .ne) (q := 39) rfl rfl rfl xc_ne (fun _ => ?_) (fun _ => ?_)
        · exact xle_jump rfl
        · refine xle_next (i := .iload_n 3) (x' := (38, [(0, .ref a0), (1, .int xv1), (2, .int xv2), (3, .int xv3)], [.int xv3], h)) rfl rfl rfl ?_
          exact xle_end (i := .ireturn) rfl rfl rfl
noncomputable def D_F_blockOf_39 (z : xzs) (a0 : Nat) (xv1 : Int32) (xv2 : Int32) (xv3 : Int32) (h : xH) : Option xR :=
  B_F_blockOf_2 z a0 xv1 xv2 (xv3 + Int32.ofInt 1) h
theorem E_F_blockOf_39 (z : xzs) (a0 : Nat) (xv1 : Int32) (xv2 : Int32) (xv3 : Int32) (h : xH) : xle (D_F_blockOf_39 z a0 xv1 xv2 xv3 h) (B_F_blockOf_39 z a0 xv1 xv2 xv3 h) := by
  unfold D_F_blockOf_39 B_F_blockOf_39
  refine xle_next (i := .iinc 3 1) (x' := (42, [(0, .ref a0), (1, .int xv1), (2, .int xv2), (3, .int (xv3 + Int32.ofInt 1))], [], h)) rfl rfl rfl ?_
  refine xle_next (i := .goto (-40)) (x' := (2, [(0, .ref a0), (1, .int xv1), (2, .int xv2), (3, .int (xv3 + Int32.ofInt 1))], [], h)) rfl rfl rfl ?_
  exact xle_jump rfl
noncomputable def B_F_readCell_26 (z : xzs)  (h : xH) : Option xR := xev (K_F_readCell z) (26, [], [], h)
noncomputable def D_F_readCell_0 (z : xzs) (a0 : Nat) (p1 : Int32) (p2 : Int32) (p3 : Int32) (h : xH) : Option xR :=
  (xisO h a0 4).bind fun _ => xclI (f_F_blockOf z [.ref a0, .int p1, .int p2] h) fun x2 h1 =>
  if x2 < 0 then
    B_F_readCell_26 z h1
  else
    if p3 < 0 then
      B_F_readCell_26 z h1
    else
      (rdR h1 a0 4 4).bind fun r3 =>
      r3.bind fun a4 =>
      (xalen h1 a4).bind fun n5 =>
      if p3 < (Int32.ofNat n5) then
        (rdR h1 a0 4 0).bind fun r6 =>
        (rdR h1 a0 4 4).bind fun r7 =>
        r6.bind fun a8 =>
        (xisO h1 a8 3).bind fun _ => xclV (f_D_readBlock z [.ref a8, .int x2, va_rf r7] h1) fun h9 =>
        (rdR h9 a0 4 4).bind fun r10 =>
        r10.bind fun a11 =>
        (rdA 0 h9 a11 p3).bind fun x12 =>
        some (.inl (some (.int x12)), h9)
      else
        B_F_readCell_26 z h1
theorem E_F_readCell (z : xzs) (a0 : Nat) (p1 : Int32) (p2 : Int32) (p3 : Int32) (h : xH) : xle (D_F_readCell_0 z a0 p1 p2 p3 h) (xfun (K_F_readCell z) 5 [.ref a0, .int p1, .int p2, .int p3] h) := by
  unfold D_F_readCell_0
  refine xle_entry (Nat.le_of_ble_eq_true rfl) (xal_c (xca_a _) (xal_c (xca_i _) (xal_c (xca_i _) (xal_c (xca_i _) (rfl))))) ?_
  show xle _ (xev (K_F_readCell z) (0, [(0, .ref a0), (1, .int p1), (2, .int p2), (3, .int p3)], [], h))
  refine xle_next (i := .aload_n 0) (x' := (1, [(0, .ref a0), (1, .int p1), (2, .int p2), (3, .int p3)], [.ref a0], h)) rfl rfl rfl ?_
  refine xle_next (i := .iload_n 1) (x' := (2, [(0, .ref a0), (1, .int p1), (2, .int p2), (3, .int p3)], [.int p1, .ref a0], h)) rfl rfl rfl ?_
  refine xle_next (i := .iload_n 2) (x' := (3, [(0, .ref a0), (1, .int p1), (2, .int p2), (3, .int p3)], [.int p2, .int p1, .ref a0], h)) rfl rfl rfl ?_
  refine xle_isO (i := .invokevirtual 42) (bq := a0) (ci := 4) (fo := (f_F_blockOf z [.ref a0, .int p1, .int p2] h).bind (xback 3 [(0, .ref a0), (1, .int p1), (2, .int p2), (3, .int p3)] [])) rfl rfl rfl (fun hs => ?_)
  refine xle_clI (t := []) rfl rfl hs (fun x2 h1 => ?_)
  refine xle_next (i := .istore 4) (x' := (8, [(0, .ref a0), (1, .int p1), (2, .int p2), (3, .int p3), (4, .int x2)], [], h1)) rfl rfl rfl ?_
  refine xle_next (i := .iload 4) (x' := (10, [(0, .ref a0), (1, .int p1), (2, .int p2), (3, .int p3), (4, .int x2)], [.int x2], h1)) rfl rfl rfl ?_
  refine xle_if (cd := .lt) (q := 26) rfl rfl rfl xc_lt (fun _ => ?_) (fun _ => ?_)
  · exact xle_jump rfl
  · refine xle_next (i := .iload_n 3) (x' := (14, [(0, .ref a0), (1, .int p1), (2, .int p2), (3, .int p3), (4, .int x2)], [.int p3], h1)) rfl rfl rfl ?_
    refine xle_if (cd := .lt) (q := 26) rfl rfl rfl xc_lt (fun _ => ?_) (fun _ => ?_)
    · exact xle_jump rfl
    · refine xle_next (i := .iload_n 3) (x' := (18, [(0, .ref a0), (1, .int p1), (2, .int p2), (3, .int p3), (4, .int x2)], [.int p3], h1)) rfl rfl rfl ?_
      refine xle_next (i := .aload_n 0) (x' := (19, [(0, .ref a0), (1, .int p1), (2, .int p2), (3, .int p3), (4, .int x2)], [.ref a0, .int p3], h1)) rfl rfl rfl ?_
      refine xle_getR (f := (4, 4, .array .int, 0)) rfl rfl rfl (fun r3 => ?_)
      refine xle_some (fun r_ => (22, [(0, .ref a0), (1, .int p1), (2, .int p2), (3, .int p3), (4, .int x2)], [va_rf r_, .int p3], h1)) (fun a4 => ?_)
      refine xle_alen rfl rfl (fun n5 => ?_)
      refine xle_icmp (cd := .lt) (q := 28) rfl rfl rfl xc_lt (fun _ => ?_) (fun _ => ?_)
      · refine xle_next (i := .aload_n 0) (x' := (29, [(0, .ref a0), (1, .int p1), (2, .int p2), (3, .int p3), (4, .int x2)], [.ref a0], h1)) rfl rfl rfl ?_
        refine xle_getR (f := (4, 0, .object "CapKernel$Driver", 0)) rfl rfl rfl (fun r6 => ?_)
        refine xle_next (i := .iload 4) (x' := (34, [(0, .ref a0), (1, .int p1), (2, .int p2), (3, .int p3), (4, .int x2)], [.int x2, va_rf r6], h1)) rfl rfl rfl ?_
        refine xle_next (i := .aload_n 0) (x' := (35, [(0, .ref a0), (1, .int p1), (2, .int p2), (3, .int p3), (4, .int x2)], [.ref a0, .int x2, va_rf r6], h1)) rfl rfl rfl ?_
        refine xle_getR (f := (4, 4, .array .int, 0)) rfl rfl rfl (fun r7 => ?_)
        refine xle_some (fun r_ => (38, [(0, .ref a0), (1, .int p1), (2, .int p2), (3, .int p3), (4, .int x2)], [va_rf r7, .int x2, va_rf r_], h1)) (fun a8 => ?_)
        refine xle_isO (i := .invokevirtual 45) (bq := a8) (ci := 3) (fo := (f_D_readBlock z [.ref a8, .int x2, va_rf r7] h1).bind (xback 38 [(0, .ref a0), (1, .int p1), (2, .int p2), (3, .int p3), (4, .int x2)] [])) rfl rfl rfl (fun hs => ?_)
        refine xle_clV (t := []) rfl rfl hs (fun h9 => ?_)
        refine xle_next (i := .aload_n 0) (x' := (42, [(0, .ref a0), (1, .int p1), (2, .int p2), (3, .int p3), (4, .int x2)], [.ref a0], h9)) rfl rfl rfl ?_
        refine xle_getR (f := (4, 4, .array .int, 0)) rfl rfl rfl (fun r10 => ?_)
        refine xle_next (i := .iload_n 3) (x' := (46, [(0, .ref a0), (1, .int p1), (2, .int p2), (3, .int p3), (4, .int x2)], [.int p3, va_rf r10], h9)) rfl rfl rfl ?_
        refine xle_some (fun r_ => (46, [(0, .ref a0), (1, .int p1), (2, .int p2), (3, .int p3), (4, .int x2)], [.int p3, va_rf r_], h9)) (fun a11 => ?_)
        refine xle_iald rfl rfl (fun x12 => ?_)
        exact xle_end (i := .ireturn) rfl rfl rfl
      · exact xle_jump rfl
noncomputable def D_F_readCell_26 (z : xzs)  (h : xH) : Option xR :=
  some (.inl (some (.int (Int32.ofInt 0))), h)
theorem E_F_readCell_26 (z : xzs)  (h : xH) : xle (D_F_readCell_26 z  h) (B_F_readCell_26 z  h) := by
  unfold D_F_readCell_26 B_F_readCell_26
  refine xle_next (i := .iconst 0) (x' := (27, [], [.int (Int32.ofInt 0)], h)) rfl rfl rfl ?_
  exact xle_end (i := .ireturn) rfl rfl rfl
noncomputable def B_F_clearBuffer_2 (z : xzs) (a0 : Nat) (xv1 : Int32) (h : xH) : Option xR := xev (K_F_clearBuffer z) (2, [(0, .ref a0), (1, .int xv1)], [], h)
noncomputable def D_F_clearBuffer_0 (z : xzs) (a0 : Nat) (h : xH) : Option xR :=
  B_F_clearBuffer_2 z a0 (Int32.ofInt 0) h
theorem E_F_clearBuffer (z : xzs) (a0 : Nat) (h : xH) : xle (D_F_clearBuffer_0 z a0 h) (xfun (K_F_clearBuffer z) 2 [.ref a0] h) := by
  unfold D_F_clearBuffer_0
  refine xle_entry (Nat.le_of_ble_eq_true rfl) (xal_c (xca_a _) (rfl)) ?_
  show xle _ (xev (K_F_clearBuffer z) (0, [(0, .ref a0)], [], h))
  refine xle_next (i := .iconst 0) (x' := (1, [(0, .ref a0)], [.int (Int32.ofInt 0)], h)) rfl rfl rfl ?_
  refine xle_next (i := .istore_n 1) (x' := (2, [(0, .ref a0), (1, .int (Int32.ofInt 0))], [], h)) rfl rfl rfl ?_
  exact xle_jump rfl
noncomputable def D_F_clearBuffer_2 (z : xzs) (a0 : Nat) (xv1 : Int32) (h : xH) : Option xR :=
  (rdR h a0 4 4).bind fun r1 =>
  r1.bind fun a2 =>
  (xalen h a2).bind fun n3 =>
  if (Int32.ofNat n3) ≤ xv1 then
    some (.inl none, h)
  else
    (rdR h a0 4 4).bind fun r4 =>
    r4.bind fun a5 =>
    (wrI h a5 xv1 (Int32.ofInt 0)).bind fun h6 =>
    B_F_clearBuffer_2 z a0 (xv1 + Int32.ofInt 1) h6
theorem E_F_clearBuffer_2 (z : xzs) (a0 : Nat) (xv1 : Int32) (h : xH) : xle (D_F_clearBuffer_2 z a0 xv1 h) (B_F_clearBuffer_2 z a0 xv1 h) := by
  unfold D_F_clearBuffer_2 B_F_clearBuffer_2
  refine xle_next (i := .iload_n 1) (x' := (3, [(0, .ref a0), (1, .int xv1)], [.int xv1], h)) rfl rfl rfl ?_
  refine xle_next (i := .aload_n 0) (x' := (4, [(0, .ref a0), (1, .int xv1)], [.ref a0, .int xv1], h)) rfl rfl rfl ?_
  refine xle_getR (f := (4, 4, .array .int, 0)) rfl rfl rfl (fun r1 => ?_)
  refine xle_some (fun r_ => (7, [(0, .ref a0), (1, .int xv1)], [va_rf r_, .int xv1], h)) (fun a2 => ?_)
  refine xle_alen rfl rfl (fun n3 => ?_)
  refine xle_icmp (cd := .ge) (q := 24) rfl rfl rfl xc_ge (fun _ => ?_) (fun _ => ?_)
  · exact xle_end (i := .return_) rfl rfl rfl
  · refine xle_next (i := .aload_n 0) (x' := (12, [(0, .ref a0), (1, .int xv1)], [.ref a0], h)) rfl rfl rfl ?_
    refine xle_getR (f := (4, 4, .array .int, 0)) rfl rfl rfl (fun r4 => ?_)
    refine xle_next (i := .iload_n 1) (x' := (16, [(0, .ref a0), (1, .int xv1)], [.int xv1, va_rf r4], h)) rfl rfl rfl ?_
    refine xle_next (i := .iconst 0) (x' := (17, [(0, .ref a0), (1, .int xv1)], [.int (Int32.ofInt 0), .int xv1, va_rf r4], h)) rfl rfl rfl ?_
    refine xle_some (fun r_ => (17, [(0, .ref a0), (1, .int xv1)], [.int (Int32.ofInt 0), .int xv1, va_rf r_], h)) (fun a5 => ?_)
    refine xle_iast rfl rfl (fun h6 => ?_)
    refine xle_next (i := .iinc 1 1) (x' := (21, [(0, .ref a0), (1, .int (xv1 + Int32.ofInt 1))], [], h6)) rfl rfl rfl ?_
    refine xle_next (i := .goto (-19)) (x' := (2, [(0, .ref a0), (1, .int (xv1 + Int32.ofInt 1))], [], h6)) rfl rfl rfl ?_
    exact xle_jump rfl
noncomputable def B_F_newFile_2 (z : xzs) (a0 : Nat) (xv1 : Int32) (xv2 : Int32) (xv3 : Int32) (h : xH) : Option xR := xev (K_F_newFile z) (2, [(0, .ref a0), (1, .int xv1), (2, .int xv2), (3, .int xv3)], [], h)
noncomputable def D_F_newFile_0 (z : xzs) (a0 : Nat) (p1 : Int32) (p2 : Int32) (h : xH) : Option xR :=
  B_F_newFile_2 z a0 p1 p2 (Int32.ofInt 0) h
theorem E_F_newFile (z : xzs) (a0 : Nat) (p1 : Int32) (p2 : Int32) (h : xH) : xle (D_F_newFile_0 z a0 p1 p2 h) (xfun (K_F_newFile z) 4 [.ref a0, .int p1, .int p2] h) := by
  unfold D_F_newFile_0
  refine xle_entry (Nat.le_of_ble_eq_true rfl) (xal_c (xca_a _) (xal_c (xca_i _) (xal_c (xca_i _) (rfl)))) ?_
  show xle _ (xev (K_F_newFile z) (0, [(0, .ref a0), (1, .int p1), (2, .int p2)], [], h))
  refine xle_next (i := .iconst 0) (x' := (1, [(0, .ref a0), (1, .int p1), (2, .int p2)], [.int (Int32.ofInt 0)], h)) rfl rfl rfl ?_
  refine xle_next (i := .istore_n 3) (x' := (2, [(0, .ref a0), (1, .int p1), (2, .int p2), (3, .int (Int32.ofInt 0))], [], h)) rfl rfl rfl ?_
  exact xle_jump rfl
noncomputable def D_F_newFile_2 (z : xzs) (a0 : Nat) (xv1 : Int32) (xv2 : Int32) (xv3 : Int32) (h : xH) : Option xR :=
  if ((Int8.ofInt 6).toInt32) ≤ xv3 then
    some (.inl (some (.int (Int32.ofInt (-1)))), h)
  else
    (rdR h a0 4 1).bind fun r1 =>
    r1.bind fun a2 =>
    (rdA 1 h a2 xv3).bind fun x3 =>
    if ¬ x3 = 0 then
      B_F_newFile_2 z a0 xv1 xv2 (xv3 + Int32.ofInt 1) h
    else
      (rdR h a0 4 1).bind fun r4 =>
      r4.bind fun a5 =>
      (wrZ h a5 xv3 (Int32.ofInt 1)).bind fun h6 =>
      (rdR h6 a0 4 2).bind fun r7 =>
      r7.bind fun a8 =>
      (wrI h6 a8 xv3 xv1).bind fun h9 =>
      (rdR h9 a0 4 3).bind fun r10 =>
      r10.bind fun a11 =>
      (wrI h9 a11 xv3 xv2).bind fun h12 =>
      (xisO h12 a0 4).bind fun _ => xclV (f_F_clearBuffer z [.ref a0] h12) fun h13 =>
      (rdR h13 a0 4 0).bind fun r14 =>
      (rdR h13 a0 4 4).bind fun r15 =>
      r14.bind fun a16 =>
      (xisO h13 a16 3).bind fun _ => xclV (f_D_writeBlock z [.ref a16, .int xv3, va_rf r15] h13) fun h17 =>
      some (.inl (some (.int xv3)), h17)
theorem E_F_newFile_2 (z : xzs) (a0 : Nat) (xv1 : Int32) (xv2 : Int32) (xv3 : Int32) (h : xH) : xle (D_F_newFile_2 z a0 xv1 xv2 xv3 h) (B_F_newFile_2 z a0 xv1 xv2 xv3 h) := by
  unfold D_F_newFile_2 B_F_newFile_2
  refine xle_next (i := .iload_n 3) (x' := (3, [(0, .ref a0), (1, .int xv1), (2, .int xv2), (3, .int xv3)], [.int xv3], h)) rfl rfl rfl ?_
  refine xle_next (i := .bipush 6) (x' := (5, [(0, .ref a0), (1, .int xv1), (2, .int xv2), (3, .int xv3)], [.int ((Int8.ofInt 6).toInt32), .int xv3], h)) rfl rfl rfl ?_
  refine xle_icmp (cd := .ge) (q := 62) rfl rfl rfl xc_ge (fun _ => ?_) (fun _ => ?_)
  · refine xle_next (i := .iconst (-1)) (x' := (63, [(0, .ref a0), (1, .int xv1), (2, .int xv2), (3, .int xv3)], [.int (Int32.ofInt (-1))], h)) rfl rfl rfl ?_
    exact xle_end (i := .ireturn) rfl rfl rfl
  · refine xle_next (i := .aload_n 0) (x' := (9, [(0, .ref a0), (1, .int xv1), (2, .int xv2), (3, .int xv3)], [.ref a0], h)) rfl rfl rfl ?_
    refine xle_getR (f := (4, 1, .array .boolean, 0)) rfl rfl rfl (fun r1 => ?_)
    refine xle_next (i := .iload_n 3) (x' := (13, [(0, .ref a0), (1, .int xv1), (2, .int xv2), (3, .int xv3)], [.int xv3, va_rf r1], h)) rfl rfl rfl ?_
    refine xle_some (fun r_ => (13, [(0, .ref a0), (1, .int xv1), (2, .int xv2), (3, .int xv3)], [.int xv3, va_rf r_], h)) (fun a2 => ?_)
    refine xle_bald rfl rfl (fun x3 => ?_)
    refine xle_if (cd := .ne) (q := 56) rfl rfl rfl xc_ne (fun _ => ?_) (fun _ => ?_)
    · refine xle_next (i := .iinc 3 1) (x' := (59, [(0, .ref a0), (1, .int xv1), (2, .int xv2), (3, .int (xv3 + Int32.ofInt 1))], [], h)) rfl rfl rfl ?_
      refine xle_next (i := .goto (-57)) (x' := (2, [(0, .ref a0), (1, .int xv1), (2, .int xv2), (3, .int (xv3 + Int32.ofInt 1))], [], h)) rfl rfl rfl ?_
      exact xle_jump rfl
    · refine xle_next (i := .aload_n 0) (x' := (18, [(0, .ref a0), (1, .int xv1), (2, .int xv2), (3, .int xv3)], [.ref a0], h)) rfl rfl rfl ?_
      refine xle_getR (f := (4, 1, .array .boolean, 0)) rfl rfl rfl (fun r4 => ?_)
      refine xle_next (i := .iload_n 3) (x' := (22, [(0, .ref a0), (1, .int xv1), (2, .int xv2), (3, .int xv3)], [.int xv3, va_rf r4], h)) rfl rfl rfl ?_
      refine xle_next (i := .iconst 1) (x' := (23, [(0, .ref a0), (1, .int xv1), (2, .int xv2), (3, .int xv3)], [.int (Int32.ofInt 1), .int xv3, va_rf r4], h)) rfl rfl rfl ?_
      refine xle_some (fun r_ => (23, [(0, .ref a0), (1, .int xv1), (2, .int xv2), (3, .int xv3)], [.int (Int32.ofInt 1), .int xv3, va_rf r_], h)) (fun a5 => ?_)
      refine xle_bast rfl rfl (fun h6 => ?_)
      refine xle_next (i := .aload_n 0) (x' := (25, [(0, .ref a0), (1, .int xv1), (2, .int xv2), (3, .int xv3)], [.ref a0], h6)) rfl rfl rfl ?_
      refine xle_getR (f := (4, 2, .array .int, 0)) rfl rfl rfl (fun r7 => ?_)
      refine xle_next (i := .iload_n 3) (x' := (29, [(0, .ref a0), (1, .int xv1), (2, .int xv2), (3, .int xv3)], [.int xv3, va_rf r7], h6)) rfl rfl rfl ?_
      refine xle_next (i := .iload_n 1) (x' := (30, [(0, .ref a0), (1, .int xv1), (2, .int xv2), (3, .int xv3)], [.int xv1, .int xv3, va_rf r7], h6)) rfl rfl rfl ?_
      refine xle_some (fun r_ => (30, [(0, .ref a0), (1, .int xv1), (2, .int xv2), (3, .int xv3)], [.int xv1, .int xv3, va_rf r_], h6)) (fun a8 => ?_)
      refine xle_iast rfl rfl (fun h9 => ?_)
      refine xle_next (i := .aload_n 0) (x' := (32, [(0, .ref a0), (1, .int xv1), (2, .int xv2), (3, .int xv3)], [.ref a0], h9)) rfl rfl rfl ?_
      refine xle_getR (f := (4, 3, .array .int, 0)) rfl rfl rfl (fun r10 => ?_)
      refine xle_next (i := .iload_n 3) (x' := (36, [(0, .ref a0), (1, .int xv1), (2, .int xv2), (3, .int xv3)], [.int xv3, va_rf r10], h9)) rfl rfl rfl ?_
      refine xle_next (i := .iload_n 2) (x' := (37, [(0, .ref a0), (1, .int xv1), (2, .int xv2), (3, .int xv3)], [.int xv2, .int xv3, va_rf r10], h9)) rfl rfl rfl ?_
      refine xle_some (fun r_ => (37, [(0, .ref a0), (1, .int xv1), (2, .int xv2), (3, .int xv3)], [.int xv2, .int xv3, va_rf r_], h9)) (fun a11 => ?_)
      refine xle_iast rfl rfl (fun h12 => ?_)
      refine xle_next (i := .aload_n 0) (x' := (39, [(0, .ref a0), (1, .int xv1), (2, .int xv2), (3, .int xv3)], [.ref a0], h12)) rfl rfl rfl ?_
      refine xle_isO (i := .invokevirtual 55) (bq := a0) (ci := 4) (fo := (f_F_clearBuffer z [.ref a0] h12).bind (xback 39 [(0, .ref a0), (1, .int xv1), (2, .int xv2), (3, .int xv3)] [])) rfl rfl rfl (fun hs => ?_)
      refine xle_clV (t := []) rfl rfl hs (fun h13 => ?_)
      refine xle_next (i := .aload_n 0) (x' := (43, [(0, .ref a0), (1, .int xv1), (2, .int xv2), (3, .int xv3)], [.ref a0], h13)) rfl rfl rfl ?_
      refine xle_getR (f := (4, 0, .object "CapKernel$Driver", 0)) rfl rfl rfl (fun r14 => ?_)
      refine xle_next (i := .iload_n 3) (x' := (47, [(0, .ref a0), (1, .int xv1), (2, .int xv2), (3, .int xv3)], [.int xv3, va_rf r14], h13)) rfl rfl rfl ?_
      refine xle_next (i := .aload_n 0) (x' := (48, [(0, .ref a0), (1, .int xv1), (2, .int xv2), (3, .int xv3)], [.ref a0, .int xv3, va_rf r14], h13)) rfl rfl rfl ?_
      refine xle_getR (f := (4, 4, .array .int, 0)) rfl rfl rfl (fun r15 => ?_)
      refine xle_some (fun r_ => (51, [(0, .ref a0), (1, .int xv1), (2, .int xv2), (3, .int xv3)], [va_rf r15, .int xv3, va_rf r_], h13)) (fun a16 => ?_)
      refine xle_isO (i := .invokevirtual 52) (bq := a16) (ci := 3) (fo := (f_D_writeBlock z [.ref a16, .int xv3, va_rf r15] h13).bind (xback 51 [(0, .ref a0), (1, .int xv1), (2, .int xv2), (3, .int xv3)] [])) rfl rfl rfl (fun hs => ?_)
      refine xle_clV (t := []) rfl rfl hs (fun h17 => ?_)
      refine xle_next (i := .iload_n 3) (x' := (55, [(0, .ref a0), (1, .int xv1), (2, .int xv2), (3, .int xv3)], [.int xv3], h17)) rfl rfl rfl ?_
      exact xle_end (i := .ireturn) rfl rfl rfl
noncomputable def B_F_writeCell_21 (z : xzs) (a0 : Nat) (xv3 : Int32) (xv4 : Int32) (xv5 : Int32) (h : xH) : Option xR := xev (K_F_writeCell z) (21, [(0, .ref a0), (3, .int xv3), (4, .int xv4), (5, .int xv5)], [], h)
noncomputable def B_F_writeCell_39 (z : xzs)  (h : xH) : Option xR := xev (K_F_writeCell z) (39, [], [], h)
noncomputable def D_F_writeCell_0 (z : xzs) (a0 : Nat) (p1 : Int32) (p2 : Int32) (p3 : Int32) (p4 : Int32) (h : xH) : Option xR :=
  (xisO h a0 4).bind fun _ => xclI (f_F_blockOf z [.ref a0, .int p1, .int p2] h) fun x2 h1 =>
  if 0 ≤ x2 then
    B_F_writeCell_21 z a0 p3 p4 x2 h1
  else
    (xisO h1 a0 4).bind fun _ => xclI (f_F_newFile z [.ref a0, .int p1, .int p2] h1) fun x4 h3 =>
    B_F_writeCell_21 z a0 p3 p4 x4 h3
theorem E_F_writeCell (z : xzs) (a0 : Nat) (p1 : Int32) (p2 : Int32) (p3 : Int32) (p4 : Int32) (h : xH) : xle (D_F_writeCell_0 z a0 p1 p2 p3 p4 h) (xfun (K_F_writeCell z) 6 [.ref a0, .int p1, .int p2, .int p3, .int p4] h) := by
  unfold D_F_writeCell_0
  refine xle_entry (Nat.le_of_ble_eq_true rfl) (xal_c (xca_a _) (xal_c (xca_i _) (xal_c (xca_i _) (xal_c (xca_i _) (xal_c (xca_i _) (rfl)))))) ?_
  show xle _ (xev (K_F_writeCell z) (0, [(0, .ref a0), (1, .int p1), (2, .int p2), (3, .int p3), (4, .int p4)], [], h))
  refine xle_next (i := .aload_n 0) (x' := (1, [(0, .ref a0), (1, .int p1), (2, .int p2), (3, .int p3), (4, .int p4)], [.ref a0], h)) rfl rfl rfl ?_
  refine xle_next (i := .iload_n 1) (x' := (2, [(0, .ref a0), (1, .int p1), (2, .int p2), (3, .int p3), (4, .int p4)], [.int p1, .ref a0], h)) rfl rfl rfl ?_
  refine xle_next (i := .iload_n 2) (x' := (3, [(0, .ref a0), (1, .int p1), (2, .int p2), (3, .int p3), (4, .int p4)], [.int p2, .int p1, .ref a0], h)) rfl rfl rfl ?_
  refine xle_isO (i := .invokevirtual 42) (bq := a0) (ci := 4) (fo := (f_F_blockOf z [.ref a0, .int p1, .int p2] h).bind (xback 3 [(0, .ref a0), (1, .int p1), (2, .int p2), (3, .int p3), (4, .int p4)] [])) rfl rfl rfl (fun hs => ?_)
  refine xle_clI (t := []) rfl rfl hs (fun x2 h1 => ?_)
  refine xle_next (i := .istore 5) (x' := (8, [(0, .ref a0), (1, .int p1), (2, .int p2), (3, .int p3), (4, .int p4), (5, .int x2)], [], h1)) rfl rfl rfl ?_
  refine xle_next (i := .iload 5) (x' := (10, [(0, .ref a0), (1, .int p1), (2, .int p2), (3, .int p3), (4, .int p4), (5, .int x2)], [.int x2], h1)) rfl rfl rfl ?_
  refine xle_if (cd := .ge) (q := 21) rfl rfl rfl xc_ge (fun _ => ?_) (fun _ => ?_)
  · exact xle_jump rfl
  · refine xle_next (i := .aload_n 0) (x' := (14, [(0, .ref a0), (1, .int p1), (2, .int p2), (3, .int p3), (4, .int p4), (5, .int x2)], [.ref a0], h1)) rfl rfl rfl ?_
    refine xle_next (i := .iload_n 1) (x' := (15, [(0, .ref a0), (1, .int p1), (2, .int p2), (3, .int p3), (4, .int p4), (5, .int x2)], [.int p1, .ref a0], h1)) rfl rfl rfl ?_
    refine xle_next (i := .iload_n 2) (x' := (16, [(0, .ref a0), (1, .int p1), (2, .int p2), (3, .int p3), (4, .int p4), (5, .int x2)], [.int p2, .int p1, .ref a0], h1)) rfl rfl rfl ?_
    refine xle_isO (i := .invokevirtual 49) (bq := a0) (ci := 4) (fo := (f_F_newFile z [.ref a0, .int p1, .int p2] h1).bind (xback 16 [(0, .ref a0), (1, .int p1), (2, .int p2), (3, .int p3), (4, .int p4), (5, .int x2)] [])) rfl rfl rfl (fun hs => ?_)
    refine xle_clI (t := []) rfl rfl hs (fun x4 h3 => ?_)
    refine xle_next (i := .istore 5) (x' := (21, [(0, .ref a0), (1, .int p1), (2, .int p2), (3, .int p3), (4, .int p4), (5, .int x4)], [], h3)) rfl rfl rfl ?_
    exact xle_jump rfl
noncomputable def D_F_writeCell_21 (z : xzs) (a0 : Nat) (xv3 : Int32) (xv4 : Int32) (xv5 : Int32) (h : xH) : Option xR :=
  if xv5 < 0 then
    B_F_writeCell_39 z h
  else
    if xv3 < 0 then
      B_F_writeCell_39 z h
    else
      (rdR h a0 4 4).bind fun r5 =>
      r5.bind fun a6 =>
      (xalen h a6).bind fun n7 =>
      if xv3 < (Int32.ofNat n7) then
        (rdR h a0 4 0).bind fun r8 =>
        (rdR h a0 4 4).bind fun r9 =>
        r8.bind fun a10 =>
        (xisO h a10 3).bind fun _ => xclV (f_D_readBlock z [.ref a10, .int xv5, va_rf r9] h) fun h11 =>
        (rdR h11 a0 4 4).bind fun r12 =>
        r12.bind fun a13 =>
        (wrI h11 a13 xv3 xv4).bind fun h14 =>
        (rdR h14 a0 4 0).bind fun r15 =>
        (rdR h14 a0 4 4).bind fun r16 =>
        r15.bind fun a17 =>
        (xisO h14 a17 3).bind fun _ => xclV (f_D_writeBlock z [.ref a17, .int xv5, va_rf r16] h14) fun h18 =>
        some (.inl (some (.int (Int32.ofInt 0))), h18)
      else
        B_F_writeCell_39 z h
theorem E_F_writeCell_21 (z : xzs) (a0 : Nat) (xv3 : Int32) (xv4 : Int32) (xv5 : Int32) (h : xH) : xle (D_F_writeCell_21 z a0 xv3 xv4 xv5 h) (B_F_writeCell_21 z a0 xv3 xv4 xv5 h) := by
  unfold D_F_writeCell_21 B_F_writeCell_21
  refine xle_next (i := .iload 5) (x' := (23, [(0, .ref a0), (3, .int xv3), (4, .int xv4), (5, .int xv5)], [.int xv5], h)) rfl rfl rfl ?_
  refine xle_if (cd := .lt) (q := 39) rfl rfl rfl xc_lt (fun _ => ?_) (fun _ => ?_)
  · exact xle_jump rfl
  · refine xle_next (i := .iload_n 3) (x' := (27, [(0, .ref a0), (3, .int xv3), (4, .int xv4), (5, .int xv5)], [.int xv3], h)) rfl rfl rfl ?_
    refine xle_if (cd := .lt) (q := 39) rfl rfl rfl xc_lt (fun _ => ?_) (fun _ => ?_)
    · exact xle_jump rfl
    · refine xle_next (i := .iload_n 3) (x' := (31, [(0, .ref a0), (3, .int xv3), (4, .int xv4), (5, .int xv5)], [.int xv3], h)) rfl rfl rfl ?_
      refine xle_next (i := .aload_n 0) (x' := (32, [(0, .ref a0), (3, .int xv3), (4, .int xv4), (5, .int xv5)], [.ref a0, .int xv3], h)) rfl rfl rfl ?_
      refine xle_getR (f := (4, 4, .array .int, 0)) rfl rfl rfl (fun r5 => ?_)
      refine xle_some (fun r_ => (35, [(0, .ref a0), (3, .int xv3), (4, .int xv4), (5, .int xv5)], [va_rf r_, .int xv3], h)) (fun a6 => ?_)
      refine xle_alen rfl rfl (fun n7 => ?_)
      refine xle_icmp (cd := .lt) (q := 42) rfl rfl rfl xc_lt (fun _ => ?_) (fun _ => ?_)
      · refine xle_next (i := .aload_n 0) (x' := (43, [(0, .ref a0), (3, .int xv3), (4, .int xv4), (5, .int xv5)], [.ref a0], h)) rfl rfl rfl ?_
        refine xle_getR (f := (4, 0, .object "CapKernel$Driver", 0)) rfl rfl rfl (fun r8 => ?_)
        refine xle_next (i := .iload 5) (x' := (48, [(0, .ref a0), (3, .int xv3), (4, .int xv4), (5, .int xv5)], [.int xv5, va_rf r8], h)) rfl rfl rfl ?_
        refine xle_next (i := .aload_n 0) (x' := (49, [(0, .ref a0), (3, .int xv3), (4, .int xv4), (5, .int xv5)], [.ref a0, .int xv5, va_rf r8], h)) rfl rfl rfl ?_
        refine xle_getR (f := (4, 4, .array .int, 0)) rfl rfl rfl (fun r9 => ?_)
        refine xle_some (fun r_ => (52, [(0, .ref a0), (3, .int xv3), (4, .int xv4), (5, .int xv5)], [va_rf r9, .int xv5, va_rf r_], h)) (fun a10 => ?_)
        refine xle_isO (i := .invokevirtual 45) (bq := a10) (ci := 3) (fo := (f_D_readBlock z [.ref a10, .int xv5, va_rf r9] h).bind (xback 52 [(0, .ref a0), (3, .int xv3), (4, .int xv4), (5, .int xv5)] [])) rfl rfl rfl (fun hs => ?_)
        refine xle_clV (t := []) rfl rfl hs (fun h11 => ?_)
        refine xle_next (i := .aload_n 0) (x' := (56, [(0, .ref a0), (3, .int xv3), (4, .int xv4), (5, .int xv5)], [.ref a0], h11)) rfl rfl rfl ?_
        refine xle_getR (f := (4, 4, .array .int, 0)) rfl rfl rfl (fun r12 => ?_)
        refine xle_next (i := .iload_n 3) (x' := (60, [(0, .ref a0), (3, .int xv3), (4, .int xv4), (5, .int xv5)], [.int xv3, va_rf r12], h11)) rfl rfl rfl ?_
        refine xle_next (i := .iload 4) (x' := (62, [(0, .ref a0), (3, .int xv3), (4, .int xv4), (5, .int xv5)], [.int xv4, .int xv3, va_rf r12], h11)) rfl rfl rfl ?_
        refine xle_some (fun r_ => (62, [(0, .ref a0), (3, .int xv3), (4, .int xv4), (5, .int xv5)], [.int xv4, .int xv3, va_rf r_], h11)) (fun a13 => ?_)
        refine xle_iast rfl rfl (fun h14 => ?_)
        refine xle_next (i := .aload_n 0) (x' := (64, [(0, .ref a0), (3, .int xv3), (4, .int xv4), (5, .int xv5)], [.ref a0], h14)) rfl rfl rfl ?_
        refine xle_getR (f := (4, 0, .object "CapKernel$Driver", 0)) rfl rfl rfl (fun r15 => ?_)
        refine xle_next (i := .iload 5) (x' := (69, [(0, .ref a0), (3, .int xv3), (4, .int xv4), (5, .int xv5)], [.int xv5, va_rf r15], h14)) rfl rfl rfl ?_
        refine xle_next (i := .aload_n 0) (x' := (70, [(0, .ref a0), (3, .int xv3), (4, .int xv4), (5, .int xv5)], [.ref a0, .int xv5, va_rf r15], h14)) rfl rfl rfl ?_
        refine xle_getR (f := (4, 4, .array .int, 0)) rfl rfl rfl (fun r16 => ?_)
        refine xle_some (fun r_ => (73, [(0, .ref a0), (3, .int xv3), (4, .int xv4), (5, .int xv5)], [va_rf r16, .int xv5, va_rf r_], h14)) (fun a17 => ?_)
        refine xle_isO (i := .invokevirtual 52) (bq := a17) (ci := 3) (fo := (f_D_writeBlock z [.ref a17, .int xv5, va_rf r16] h14).bind (xback 73 [(0, .ref a0), (3, .int xv3), (4, .int xv4), (5, .int xv5)] [])) rfl rfl rfl (fun hs => ?_)
        refine xle_clV (t := []) rfl rfl hs (fun h18 => ?_)
        refine xle_next (i := .iconst 0) (x' := (77, [(0, .ref a0), (3, .int xv3), (4, .int xv4), (5, .int xv5)], [.int (Int32.ofInt 0)], h18)) rfl rfl rfl ?_
        exact xle_end (i := .ireturn) rfl rfl rfl
      · exact xle_jump rfl
noncomputable def D_F_writeCell_39 (z : xzs)  (h : xH) : Option xR :=
  some (.inl (some (.int ((Int8.ofInt (-3)).toInt32))), h)
theorem E_F_writeCell_39 (z : xzs)  (h : xH) : xle (D_F_writeCell_39 z  h) (B_F_writeCell_39 z  h) := by
  unfold D_F_writeCell_39 B_F_writeCell_39
  refine xle_next (i := .bipush (-3)) (x' := (41, [], [.int ((Int8.ofInt (-3)).toInt32)], h)) rfl rfl rfl ?_
  exact xle_end (i := .ireturn) rfl rfl rfl
noncomputable def B_F_removeFile_20 (z : xzs)  (h : xH) : Option xR := xev (K_F_removeFile z) (20, [], [], h)
noncomputable def D_F_removeFile_0 (z : xzs) (a0 : Nat) (p1 : Int32) (p2 : Int32) (h : xH) : Option xR :=
  (xisO h a0 4).bind fun _ => xclI (f_F_blockOf z [.ref a0, .int p1, .int p2] h) fun x2 h1 =>
  if x2 < 0 then
    B_F_removeFile_20 z h1
  else
    (rdR h1 a0 4 1).bind fun r3 =>
    r3.bind fun a4 =>
    (xalen h1 a4).bind fun n5 =>
    if x2 < (Int32.ofNat n5) then
      (rdR h1 a0 4 1).bind fun r6 =>
      r6.bind fun a7 =>
      (wrZ h1 a7 x2 (Int32.ofInt 0)).bind fun h8 =>
      some (.inl (some (.int (Int32.ofInt 0))), h8)
    else
      B_F_removeFile_20 z h1
theorem E_F_removeFile (z : xzs) (a0 : Nat) (p1 : Int32) (p2 : Int32) (h : xH) : xle (D_F_removeFile_0 z a0 p1 p2 h) (xfun (K_F_removeFile z) 4 [.ref a0, .int p1, .int p2] h) := by
  unfold D_F_removeFile_0
  refine xle_entry (Nat.le_of_ble_eq_true rfl) (xal_c (xca_a _) (xal_c (xca_i _) (xal_c (xca_i _) (rfl)))) ?_
  show xle _ (xev (K_F_removeFile z) (0, [(0, .ref a0), (1, .int p1), (2, .int p2)], [], h))
  refine xle_next (i := .aload_n 0) (x' := (1, [(0, .ref a0), (1, .int p1), (2, .int p2)], [.ref a0], h)) rfl rfl rfl ?_
  refine xle_next (i := .iload_n 1) (x' := (2, [(0, .ref a0), (1, .int p1), (2, .int p2)], [.int p1, .ref a0], h)) rfl rfl rfl ?_
  refine xle_next (i := .iload_n 2) (x' := (3, [(0, .ref a0), (1, .int p1), (2, .int p2)], [.int p2, .int p1, .ref a0], h)) rfl rfl rfl ?_
  refine xle_isO (i := .invokevirtual 42) (bq := a0) (ci := 4) (fo := (f_F_blockOf z [.ref a0, .int p1, .int p2] h).bind (xback 3 [(0, .ref a0), (1, .int p1), (2, .int p2)] [])) rfl rfl rfl (fun hs => ?_)
  refine xle_clI (t := []) rfl rfl hs (fun x2 h1 => ?_)
  refine xle_next (i := .istore_n 3) (x' := (7, [(0, .ref a0), (1, .int p1), (2, .int p2), (3, .int x2)], [], h1)) rfl rfl rfl ?_
  refine xle_next (i := .iload_n 3) (x' := (8, [(0, .ref a0), (1, .int p1), (2, .int p2), (3, .int x2)], [.int x2], h1)) rfl rfl rfl ?_
  refine xle_if (cd := .lt) (q := 20) rfl rfl rfl xc_lt (fun _ => ?_) (fun _ => ?_)
  · exact xle_jump rfl
  · refine xle_next (i := .iload_n 3) (x' := (12, [(0, .ref a0), (1, .int p1), (2, .int p2), (3, .int x2)], [.int x2], h1)) rfl rfl rfl ?_
    refine xle_next (i := .aload_n 0) (x' := (13, [(0, .ref a0), (1, .int p1), (2, .int p2), (3, .int x2)], [.ref a0, .int x2], h1)) rfl rfl rfl ?_
    refine xle_getR (f := (4, 1, .array .boolean, 0)) rfl rfl rfl (fun r3 => ?_)
    refine xle_some (fun r_ => (16, [(0, .ref a0), (1, .int p1), (2, .int p2), (3, .int x2)], [va_rf r_, .int x2], h1)) (fun a4 => ?_)
    refine xle_alen rfl rfl (fun n5 => ?_)
    refine xle_icmp (cd := .lt) (q := 22) rfl rfl rfl xc_lt (fun _ => ?_) (fun _ => ?_)
    · refine xle_next (i := .aload_n 0) (x' := (23, [(0, .ref a0), (1, .int p1), (2, .int p2), (3, .int x2)], [.ref a0], h1)) rfl rfl rfl ?_
      refine xle_getR (f := (4, 1, .array .boolean, 0)) rfl rfl rfl (fun r6 => ?_)
      refine xle_next (i := .iload_n 3) (x' := (27, [(0, .ref a0), (1, .int p1), (2, .int p2), (3, .int x2)], [.int x2, va_rf r6], h1)) rfl rfl rfl ?_
      refine xle_next (i := .iconst 0) (x' := (28, [(0, .ref a0), (1, .int p1), (2, .int p2), (3, .int x2)], [.int (Int32.ofInt 0), .int x2, va_rf r6], h1)) rfl rfl rfl ?_
      refine xle_some (fun r_ => (28, [(0, .ref a0), (1, .int p1), (2, .int p2), (3, .int x2)], [.int (Int32.ofInt 0), .int x2, va_rf r_], h1)) (fun a7 => ?_)
      refine xle_bast rfl rfl (fun h8 => ?_)
      refine xle_next (i := .iconst 0) (x' := (30, [(0, .ref a0), (1, .int p1), (2, .int p2), (3, .int x2)], [.int (Int32.ofInt 0)], h8)) rfl rfl rfl ?_
      exact xle_end (i := .ireturn) rfl rfl rfl
    · exact xle_jump rfl
noncomputable def D_F_removeFile_20 (z : xzs)  (h : xH) : Option xR :=
  some (.inl (some (.int (Int32.ofInt (-1)))), h)
theorem E_F_removeFile_20 (z : xzs)  (h : xH) : xle (D_F_removeFile_20 z  h) (B_F_removeFile_20 z  h) := by
  unfold D_F_removeFile_20 B_F_removeFile_20
  refine xle_next (i := .iconst (-1)) (x' := (21, [], [.int (Int32.ofInt (-1))], h)) rfl rfl rfl ?_
  exact xle_end (i := .ireturn) rfl rfl rfl
noncomputable def B_F_serve_30 (z : xzs) (a0 : Nat) (xv1 : Int32) (xv3 : Int32) (xv4 : Int32) (xs0 : Int32) (h : xH) : Option xR := xev (K_F_serve z) (30, [(0, .ref a0), (1, .int xv1), (3, .int xv3), (4, .int xv4)], [.int xs0], h)
noncomputable def B_F_serve_58 (z : xzs) (a0 : Nat) (xv1 : Int32) (xv3 : Int32) (xv4 : Int32) (xv5 : Int32) (h : xH) : Option xR := xev (K_F_serve z) (58, [(0, .ref a0), (1, .int xv1), (3, .int xv3), (4, .int xv4), (5, .int xv5)], [], h)
noncomputable def B_F_serve_97 (z : xzs) (a0 : Nat) (xv1 : Int32) (xv3 : Int32) (xv4 : Int32) (h : xH) : Option xR := xev (K_F_serve z) (97, [(0, .ref a0), (1, .int xv1), (3, .int xv3), (4, .int xv4)], [], h)
noncomputable def B_F_serve_117 (z : xzs)  (h : xH) : Option xR := xev (K_F_serve z) (117, [], [], h)
noncomputable def D_F_serve_0 (z : xzs) (a0 : Nat) (p1 : Int32) (p2 : Int32) (h : xH) : Option xR :=
  if 0 ≤ p2 then
    if ((Int8.ofInt 32).toInt32) ≤ (p2 - p2 / ((Int8.ofInt 100).toInt32) * ((Int8.ofInt 100).toInt32)) then
      B_F_serve_30 z a0 p1 (p2 / ((Int8.ofInt 100).toInt32)) (p2 - p2 / ((Int8.ofInt 100).toInt32) * ((Int8.ofInt 100).toInt32)) (Int32.ofInt 0) h
    else
      B_F_serve_30 z a0 p1 (p2 / ((Int8.ofInt 100).toInt32)) (p2 - p2 / ((Int8.ofInt 100).toInt32) * ((Int8.ofInt 100).toInt32)) (Int32.ofInt 1) h
  else
    some (.inl (some (.int ((Int8.ofInt (-2)).toInt32))), h)
theorem E_F_serve (z : xzs) (a0 : Nat) (p1 : Int32) (p2 : Int32) (h : xH) : xle (D_F_serve_0 z a0 p1 p2 h) (xfun (K_F_serve z) 7 [.ref a0, .int p1, .int p2] h) := by
  unfold D_F_serve_0
  refine xle_entry (Nat.le_of_ble_eq_true rfl) (xal_c (xca_a _) (xal_c (xca_i _) (xal_c (xca_i _) (rfl)))) ?_
  show xle _ (xev (K_F_serve z) (0, [(0, .ref a0), (1, .int p1), (2, .int p2)], [], h))
  refine xle_next (i := .iload_n 2) (x' := (1, [(0, .ref a0), (1, .int p1), (2, .int p2)], [.int p2], h)) rfl rfl rfl ?_
  refine xle_if (cd := .ge) (q := 7) rfl rfl rfl xc_ge (fun _ => ?_) (fun _ => ?_)
  · refine xle_next (i := .iload_n 2) (x' := (8, [(0, .ref a0), (1, .int p1), (2, .int p2)], [.int p2], h)) rfl rfl rfl ?_
    refine xle_next (i := .bipush 100) (x' := (10, [(0, .ref a0), (1, .int p1), (2, .int p2)], [.int ((Int8.ofInt 100).toInt32), .int p2], h)) rfl rfl rfl ?_
    refine xle_next (i := .idiv) (x' := (11, [(0, .ref a0), (1, .int p1), (2, .int p2)], [.int (p2 / ((Int8.ofInt 100).toInt32))], h)) rfl rfl rfl ?_
    refine xle_next (i := .istore_n 3) (x' := (12, [(0, .ref a0), (1, .int p1), (2, .int p2), (3, .int (p2 / ((Int8.ofInt 100).toInt32)))], [], h)) rfl rfl rfl ?_
    refine xle_next (i := .iload_n 2) (x' := (13, [(0, .ref a0), (1, .int p1), (2, .int p2), (3, .int (p2 / ((Int8.ofInt 100).toInt32)))], [.int p2], h)) rfl rfl rfl ?_
    refine xle_next (i := .bipush 100) (x' := (15, [(0, .ref a0), (1, .int p1), (2, .int p2), (3, .int (p2 / ((Int8.ofInt 100).toInt32)))], [.int ((Int8.ofInt 100).toInt32), .int p2], h)) rfl rfl rfl ?_
    refine xle_next (i := .irem) (x' := (16, [(0, .ref a0), (1, .int p1), (2, .int p2), (3, .int (p2 / ((Int8.ofInt 100).toInt32)))], [.int (p2 - p2 / ((Int8.ofInt 100).toInt32) * ((Int8.ofInt 100).toInt32))], h)) rfl rfl rfl ?_
    refine xle_next (i := .istore 4) (x' := (18, [(0, .ref a0), (1, .int p1), (2, .int p2), (3, .int (p2 / ((Int8.ofInt 100).toInt32))), (4, .int (p2 - p2 / ((Int8.ofInt 100).toInt32) * ((Int8.ofInt 100).toInt32)))], [], h)) rfl rfl rfl ?_
    refine xle_next (i := .iload 4) (x' := (20, [(0, .ref a0), (1, .int p1), (2, .int p2), (3, .int (p2 / ((Int8.ofInt 100).toInt32))), (4, .int (p2 - p2 / ((Int8.ofInt 100).toInt32) * ((Int8.ofInt 100).toInt32)))], [.int (p2 - p2 / ((Int8.ofInt 100).toInt32) * ((Int8.ofInt 100).toInt32))], h)) rfl rfl rfl ?_
    refine xle_next (i := .bipush 32) (x' := (22, [(0, .ref a0), (1, .int p1), (2, .int p2), (3, .int (p2 / ((Int8.ofInt 100).toInt32))), (4, .int (p2 - p2 / ((Int8.ofInt 100).toInt32) * ((Int8.ofInt 100).toInt32)))], [.int ((Int8.ofInt 32).toInt32), .int (p2 - p2 / ((Int8.ofInt 100).toInt32) * ((Int8.ofInt 100).toInt32))], h)) rfl rfl rfl ?_
    refine xle_icmp (cd := .ge) (q := 29) rfl rfl rfl xc_ge (fun _ => ?_) (fun _ => ?_)
    · refine xle_next (i := .iconst 0) (x' := (30, [(0, .ref a0), (1, .int p1), (2, .int p2), (3, .int (p2 / ((Int8.ofInt 100).toInt32))), (4, .int (p2 - p2 / ((Int8.ofInt 100).toInt32) * ((Int8.ofInt 100).toInt32)))], [.int (Int32.ofInt 0)], h)) rfl rfl rfl ?_
      exact xle_jump rfl
    · refine xle_next (i := .iconst 1) (x' := (26, [(0, .ref a0), (1, .int p1), (2, .int p2), (3, .int (p2 / ((Int8.ofInt 100).toInt32))), (4, .int (p2 - p2 / ((Int8.ofInt 100).toInt32) * ((Int8.ofInt 100).toInt32)))], [.int (Int32.ofInt 1)], h)) rfl rfl rfl ?_
      refine xle_next (i := .goto 4) (x' := (30, [(0, .ref a0), (1, .int p1), (2, .int p2), (3, .int (p2 / ((Int8.ofInt 100).toInt32))), (4, .int (p2 - p2 / ((Int8.ofInt 100).toInt32) * ((Int8.ofInt 100).toInt32)))], [.int (Int32.ofInt 1)], h)) rfl rfl rfl ?_
      exact xle_jump rfl
  · refine xle_next (i := .bipush (-2)) (x' := (6, [(0, .ref a0), (1, .int p1), (2, .int p2)], [.int ((Int8.ofInt (-2)).toInt32)], h)) rfl rfl rfl ?_
    exact xle_end (i := .ireturn) rfl rfl rfl
noncomputable def D_F_serve_30 (z : xzs) (a0 : Nat) (xv1 : Int32) (xv3 : Int32) (xv4 : Int32) (xs0 : Int32) (h : xH) : Option xR :=
  if ¬ xv3 = (Int32.ofInt 2) then
    B_F_serve_58 z a0 xv1 xv3 xv4 xs0 h
  else
    if xs0 = 0 then
      B_F_serve_58 z a0 xv1 xv3 xv4 xs0 h
    else
      (xisO h a0 4).bind fun _ => xclI (f_F_readCell z [.ref a0, .int xv1, .int (xv4 / ((Int8.ofInt 8).toInt32)), .int (xv4 - xv4 / ((Int8.ofInt 8).toInt32) * ((Int8.ofInt 8).toInt32))] h) fun x2 h1 =>
      some (.inl (some (.int x2)), h1)
theorem E_F_serve_30 (z : xzs) (a0 : Nat) (xv1 : Int32) (xv3 : Int32) (xv4 : Int32) (xs0 : Int32) (h : xH) : xle (D_F_serve_30 z a0 xv1 xv3 xv4 xs0 h) (B_F_serve_30 z a0 xv1 xv3 xv4 xs0 h) := by
  unfold D_F_serve_30 B_F_serve_30
  refine xle_next (i := .istore 5) (x' := (32, [(0, .ref a0), (1, .int xv1), (3, .int xv3), (4, .int xv4), (5, .int xs0)], [], h)) rfl rfl rfl ?_
  refine xle_next (i := .iload_n 3) (x' := (33, [(0, .ref a0), (1, .int xv1), (3, .int xv3), (4, .int xv4), (5, .int xs0)], [.int xv3], h)) rfl rfl rfl ?_
  refine xle_next (i := .iconst 2) (x' := (34, [(0, .ref a0), (1, .int xv1), (3, .int xv3), (4, .int xv4), (5, .int xs0)], [.int (Int32.ofInt 2), .int xv3], h)) rfl rfl rfl ?_
  refine xle_icmp (cd := .ne) (q := 58) rfl rfl rfl xc_ne (fun _ => ?_) (fun _ => ?_)
  · exact xle_jump rfl
  · refine xle_next (i := .iload 5) (x' := (39, [(0, .ref a0), (1, .int xv1), (3, .int xv3), (4, .int xv4), (5, .int xs0)], [.int xs0], h)) rfl rfl rfl ?_
    refine xle_if (cd := .eq) (q := 58) rfl rfl rfl xc_eq (fun _ => ?_) (fun _ => ?_)
    · exact xle_jump rfl
    · refine xle_next (i := .aload_n 0) (x' := (43, [(0, .ref a0), (1, .int xv1), (3, .int xv3), (4, .int xv4), (5, .int xs0)], [.ref a0], h)) rfl rfl rfl ?_
      refine xle_next (i := .iload_n 1) (x' := (44, [(0, .ref a0), (1, .int xv1), (3, .int xv3), (4, .int xv4), (5, .int xs0)], [.int xv1, .ref a0], h)) rfl rfl rfl ?_
      refine xle_next (i := .iload 4) (x' := (46, [(0, .ref a0), (1, .int xv1), (3, .int xv3), (4, .int xv4), (5, .int xs0)], [.int xv4, .int xv1, .ref a0], h)) rfl rfl rfl ?_
      refine xle_next (i := .bipush 8) (x' := (48, [(0, .ref a0), (1, .int xv1), (3, .int xv3), (4, .int xv4), (5, .int xs0)], [.int ((Int8.ofInt 8).toInt32), .int xv4, .int xv1, .ref a0], h)) rfl rfl rfl ?_
      refine xle_next (i := .idiv) (x' := (49, [(0, .ref a0), (1, .int xv1), (3, .int xv3), (4, .int xv4), (5, .int xs0)], [.int (xv4 / ((Int8.ofInt 8).toInt32)), .int xv1, .ref a0], h)) rfl rfl rfl ?_
      refine xle_next (i := .iload 4) (x' := (51, [(0, .ref a0), (1, .int xv1), (3, .int xv3), (4, .int xv4), (5, .int xs0)], [.int xv4, .int (xv4 / ((Int8.ofInt 8).toInt32)), .int xv1, .ref a0], h)) rfl rfl rfl ?_
      refine xle_next (i := .bipush 8) (x' := (53, [(0, .ref a0), (1, .int xv1), (3, .int xv3), (4, .int xv4), (5, .int xs0)], [.int ((Int8.ofInt 8).toInt32), .int xv4, .int (xv4 / ((Int8.ofInt 8).toInt32)), .int xv1, .ref a0], h)) rfl rfl rfl ?_
      refine xle_next (i := .irem) (x' := (54, [(0, .ref a0), (1, .int xv1), (3, .int xv3), (4, .int xv4), (5, .int xs0)], [.int (xv4 - xv4 / ((Int8.ofInt 8).toInt32) * ((Int8.ofInt 8).toInt32)), .int (xv4 / ((Int8.ofInt 8).toInt32)), .int xv1, .ref a0], h)) rfl rfl rfl ?_
      refine xle_isO (i := .invokevirtual 30) (bq := a0) (ci := 4) (fo := (f_F_readCell z [.ref a0, .int xv1, .int (xv4 / ((Int8.ofInt 8).toInt32)), .int (xv4 - xv4 / ((Int8.ofInt 8).toInt32) * ((Int8.ofInt 8).toInt32))] h).bind (xback 54 [(0, .ref a0), (1, .int xv1), (3, .int xv3), (4, .int xv4), (5, .int xs0)] [])) rfl rfl rfl (fun hs => ?_)
      refine xle_clI (t := []) rfl rfl hs (fun x2 h1 => ?_)
      exact xle_end (i := .ireturn) rfl rfl rfl
noncomputable def D_F_serve_58 (z : xzs) (a0 : Nat) (xv1 : Int32) (xv3 : Int32) (xv4 : Int32) (xv5 : Int32) (h : xH) : Option xR :=
  if xv3 < (Int32.ofInt 3) then
    B_F_serve_97 z a0 xv1 xv3 xv4 h
  else
    if ((Int8.ofInt 12).toInt32) < xv3 then
      B_F_serve_97 z a0 xv1 xv3 xv4 h
    else
      if xv5 = 0 then
        B_F_serve_97 z a0 xv1 xv3 xv4 h
      else
        (xisO h a0 4).bind fun _ => xclI (f_F_writeCell z [.ref a0, .int xv1, .int (xv4 / ((Int8.ofInt 8).toInt32)), .int (xv4 - xv4 / ((Int8.ofInt 8).toInt32) * ((Int8.ofInt 8).toInt32)), .int (xv3 - (Int32.ofInt 3))] h) fun x4 h3 =>
        some (.inl (some (.int x4)), h3)
theorem E_F_serve_58 (z : xzs) (a0 : Nat) (xv1 : Int32) (xv3 : Int32) (xv4 : Int32) (xv5 : Int32) (h : xH) : xle (D_F_serve_58 z a0 xv1 xv3 xv4 xv5 h) (B_F_serve_58 z a0 xv1 xv3 xv4 xv5 h) := by
  unfold D_F_serve_58 B_F_serve_58
  refine xle_next (i := .iload_n 3) (x' := (59, [(0, .ref a0), (1, .int xv1), (3, .int xv3), (4, .int xv4), (5, .int xv5)], [.int xv3], h)) rfl rfl rfl ?_
  refine xle_next (i := .iconst 3) (x' := (60, [(0, .ref a0), (1, .int xv1), (3, .int xv3), (4, .int xv4), (5, .int xv5)], [.int (Int32.ofInt 3), .int xv3], h)) rfl rfl rfl ?_
  refine xle_icmp (cd := .lt) (q := 97) rfl rfl rfl xc_lt (fun _ => ?_) (fun _ => ?_)
  · exact xle_jump rfl
  · refine xle_next (i := .iload_n 3) (x' := (64, [(0, .ref a0), (1, .int xv1), (3, .int xv3), (4, .int xv4), (5, .int xv5)], [.int xv3], h)) rfl rfl rfl ?_
    refine xle_next (i := .bipush 12) (x' := (66, [(0, .ref a0), (1, .int xv1), (3, .int xv3), (4, .int xv4), (5, .int xv5)], [.int ((Int8.ofInt 12).toInt32), .int xv3], h)) rfl rfl rfl ?_
    refine xle_icmp (cd := .gt) (q := 97) rfl rfl rfl xc_gt (fun _ => ?_) (fun _ => ?_)
    · exact xle_jump rfl
    · refine xle_next (i := .iload 5) (x' := (71, [(0, .ref a0), (1, .int xv1), (3, .int xv3), (4, .int xv4), (5, .int xv5)], [.int xv5], h)) rfl rfl rfl ?_
      refine xle_if (cd := .eq) (q := 97) rfl rfl rfl xc_eq (fun _ => ?_) (fun _ => ?_)
      · exact xle_jump rfl
      · refine xle_next (i := .iload_n 3) (x' := (75, [(0, .ref a0), (1, .int xv1), (3, .int xv3), (4, .int xv4), (5, .int xv5)], [.int xv3], h)) rfl rfl rfl ?_
        refine xle_next (i := .iconst 3) (x' := (76, [(0, .ref a0), (1, .int xv1), (3, .int xv3), (4, .int xv4), (5, .int xv5)], [.int (Int32.ofInt 3), .int xv3], h)) rfl rfl rfl ?_
        refine xle_next (i := .isub) (x' := (77, [(0, .ref a0), (1, .int xv1), (3, .int xv3), (4, .int xv4), (5, .int xv5)], [.int (xv3 - (Int32.ofInt 3))], h)) rfl rfl rfl ?_
        refine xle_next (i := .istore 6) (x' := (79, [(0, .ref a0), (1, .int xv1), (3, .int xv3), (4, .int xv4), (5, .int xv5), (6, .int (xv3 - (Int32.ofInt 3)))], [], h)) rfl rfl rfl ?_
        refine xle_next (i := .aload_n 0) (x' := (80, [(0, .ref a0), (1, .int xv1), (3, .int xv3), (4, .int xv4), (5, .int xv5), (6, .int (xv3 - (Int32.ofInt 3)))], [.ref a0], h)) rfl rfl rfl ?_
        refine xle_next (i := .iload_n 1) (x' := (81, [(0, .ref a0), (1, .int xv1), (3, .int xv3), (4, .int xv4), (5, .int xv5), (6, .int (xv3 - (Int32.ofInt 3)))], [.int xv1, .ref a0], h)) rfl rfl rfl ?_
        refine xle_next (i := .iload 4) (x' := (83, [(0, .ref a0), (1, .int xv1), (3, .int xv3), (4, .int xv4), (5, .int xv5), (6, .int (xv3 - (Int32.ofInt 3)))], [.int xv4, .int xv1, .ref a0], h)) rfl rfl rfl ?_
        refine xle_next (i := .bipush 8) (x' := (85, [(0, .ref a0), (1, .int xv1), (3, .int xv3), (4, .int xv4), (5, .int xv5), (6, .int (xv3 - (Int32.ofInt 3)))], [.int ((Int8.ofInt 8).toInt32), .int xv4, .int xv1, .ref a0], h)) rfl rfl rfl ?_
        refine xle_next (i := .idiv) (x' := (86, [(0, .ref a0), (1, .int xv1), (3, .int xv3), (4, .int xv4), (5, .int xv5), (6, .int (xv3 - (Int32.ofInt 3)))], [.int (xv4 / ((Int8.ofInt 8).toInt32)), .int xv1, .ref a0], h)) rfl rfl rfl ?_
        refine xle_next (i := .iload 4) (x' := (88, [(0, .ref a0), (1, .int xv1), (3, .int xv3), (4, .int xv4), (5, .int xv5), (6, .int (xv3 - (Int32.ofInt 3)))], [.int xv4, .int (xv4 / ((Int8.ofInt 8).toInt32)), .int xv1, .ref a0], h)) rfl rfl rfl ?_
        refine xle_next (i := .bipush 8) (x' := (90, [(0, .ref a0), (1, .int xv1), (3, .int xv3), (4, .int xv4), (5, .int xv5), (6, .int (xv3 - (Int32.ofInt 3)))], [.int ((Int8.ofInt 8).toInt32), .int xv4, .int (xv4 / ((Int8.ofInt 8).toInt32)), .int xv1, .ref a0], h)) rfl rfl rfl ?_
        refine xle_next (i := .irem) (x' := (91, [(0, .ref a0), (1, .int xv1), (3, .int xv3), (4, .int xv4), (5, .int xv5), (6, .int (xv3 - (Int32.ofInt 3)))], [.int (xv4 - xv4 / ((Int8.ofInt 8).toInt32) * ((Int8.ofInt 8).toInt32)), .int (xv4 / ((Int8.ofInt 8).toInt32)), .int xv1, .ref a0], h)) rfl rfl rfl ?_
        refine xle_next (i := .iload 6) (x' := (93, [(0, .ref a0), (1, .int xv1), (3, .int xv3), (4, .int xv4), (5, .int xv5), (6, .int (xv3 - (Int32.ofInt 3)))], [.int (xv3 - (Int32.ofInt 3)), .int (xv4 - xv4 / ((Int8.ofInt 8).toInt32) * ((Int8.ofInt 8).toInt32)), .int (xv4 / ((Int8.ofInt 8).toInt32)), .int xv1, .ref a0], h)) rfl rfl rfl ?_
        refine xle_isO (i := .invokevirtual 34) (bq := a0) (ci := 4) (fo := (f_F_writeCell z [.ref a0, .int xv1, .int (xv4 / ((Int8.ofInt 8).toInt32)), .int (xv4 - xv4 / ((Int8.ofInt 8).toInt32) * ((Int8.ofInt 8).toInt32)), .int (xv3 - (Int32.ofInt 3))] h).bind (xback 93 [(0, .ref a0), (1, .int xv1), (3, .int xv3), (4, .int xv4), (5, .int xv5), (6, .int (xv3 - (Int32.ofInt 3)))] [])) rfl rfl rfl (fun hs => ?_)
        refine xle_clI (t := []) rfl rfl hs (fun x4 h3 => ?_)
        exact xle_end (i := .ireturn) rfl rfl rfl
noncomputable def D_F_serve_97 (z : xzs) (a0 : Nat) (xv1 : Int32) (xv3 : Int32) (xv4 : Int32) (h : xH) : Option xR :=
  if ¬ xv3 = ((Int8.ofInt 13).toInt32) then
    B_F_serve_117 z h
  else
    if (Int32.ofInt 4) ≤ xv4 then
      B_F_serve_117 z h
    else
      (xisO h a0 4).bind fun _ => xclI (f_F_removeFile z [.ref a0, .int xv1, .int xv4] h) fun x6 h5 =>
      some (.inl (some (.int x6)), h5)
theorem E_F_serve_97 (z : xzs) (a0 : Nat) (xv1 : Int32) (xv3 : Int32) (xv4 : Int32) (h : xH) : xle (D_F_serve_97 z a0 xv1 xv3 xv4 h) (B_F_serve_97 z a0 xv1 xv3 xv4 h) := by
  unfold D_F_serve_97 B_F_serve_97
  refine xle_next (i := .iload_n 3) (x' := (98, [(0, .ref a0), (1, .int xv1), (3, .int xv3), (4, .int xv4)], [.int xv3], h)) rfl rfl rfl ?_
  refine xle_next (i := .bipush 13) (x' := (100, [(0, .ref a0), (1, .int xv1), (3, .int xv3), (4, .int xv4)], [.int ((Int8.ofInt 13).toInt32), .int xv3], h)) rfl rfl rfl ?_
  refine xle_icmp (cd := .ne) (q := 117) rfl rfl rfl xc_ne (fun _ => ?_) (fun _ => ?_)
  · exact xle_jump rfl
  · refine xle_next (i := .iload 4) (x' := (105, [(0, .ref a0), (1, .int xv1), (3, .int xv3), (4, .int xv4)], [.int xv4], h)) rfl rfl rfl ?_
    refine xle_next (i := .iconst 4) (x' := (106, [(0, .ref a0), (1, .int xv1), (3, .int xv3), (4, .int xv4)], [.int (Int32.ofInt 4), .int xv4], h)) rfl rfl rfl ?_
    refine xle_icmp (cd := .ge) (q := 117) rfl rfl rfl xc_ge (fun _ => ?_) (fun _ => ?_)
    · exact xle_jump rfl
    · refine xle_next (i := .aload_n 0) (x' := (110, [(0, .ref a0), (1, .int xv1), (3, .int xv3), (4, .int xv4)], [.ref a0], h)) rfl rfl rfl ?_
      refine xle_next (i := .iload_n 1) (x' := (111, [(0, .ref a0), (1, .int xv1), (3, .int xv3), (4, .int xv4)], [.int xv1, .ref a0], h)) rfl rfl rfl ?_
      refine xle_next (i := .iload 4) (x' := (113, [(0, .ref a0), (1, .int xv1), (3, .int xv3), (4, .int xv4)], [.int xv4, .int xv1, .ref a0], h)) rfl rfl rfl ?_
      refine xle_isO (i := .invokevirtual 38) (bq := a0) (ci := 4) (fo := (f_F_removeFile z [.ref a0, .int xv1, .int xv4] h).bind (xback 113 [(0, .ref a0), (1, .int xv1), (3, .int xv3), (4, .int xv4)] [])) rfl rfl rfl (fun hs => ?_)
      refine xle_clI (t := []) rfl rfl hs (fun x6 h5 => ?_)
      exact xle_end (i := .ireturn) rfl rfl rfl
noncomputable def D_F_serve_117 (z : xzs)  (h : xH) : Option xR :=
  some (.inl (some (.int ((Int8.ofInt (-2)).toInt32))), h)
theorem E_F_serve_117 (z : xzs)  (h : xH) : xle (D_F_serve_117 z  h) (B_F_serve_117 z  h) := by
  unfold D_F_serve_117 B_F_serve_117
  refine xle_next (i := .bipush (-2)) (x' := (119, [], [.int ((Int8.ofInt (-2)).toInt32)], h)) rfl rfl rfl ?_
  exact xle_end (i := .ireturn) rfl rfl rfl
noncomputable def B_F_howManyFree_4 (z : xzs) (a0 : Nat) (xv1 : Int32) (xv2 : Int32) (h : xH) : Option xR := xev (K_F_howManyFree z) (4, [(0, .ref a0), (1, .int xv1), (2, .int xv2)], [], h)
noncomputable def B_F_howManyFree_22 (z : xzs) (a0 : Nat) (xv1 : Int32) (xv2 : Int32) (h : xH) : Option xR := xev (K_F_howManyFree z) (22, [(0, .ref a0), (1, .int xv1), (2, .int xv2)], [], h)
noncomputable def D_F_howManyFree_0 (z : xzs) (a0 : Nat) (h : xH) : Option xR :=
  B_F_howManyFree_4 z a0 (Int32.ofInt 0) (Int32.ofInt 0) h
theorem E_F_howManyFree (z : xzs) (a0 : Nat) (h : xH) : xle (D_F_howManyFree_0 z a0 h) (xfun (K_F_howManyFree z) 3 [.ref a0] h) := by
  unfold D_F_howManyFree_0
  refine xle_entry (Nat.le_of_ble_eq_true rfl) (xal_c (xca_a _) (rfl)) ?_
  show xle _ (xev (K_F_howManyFree z) (0, [(0, .ref a0)], [], h))
  refine xle_next (i := .iconst 0) (x' := (1, [(0, .ref a0)], [.int (Int32.ofInt 0)], h)) rfl rfl rfl ?_
  refine xle_next (i := .istore_n 1) (x' := (2, [(0, .ref a0), (1, .int (Int32.ofInt 0))], [], h)) rfl rfl rfl ?_
  refine xle_next (i := .iconst 0) (x' := (3, [(0, .ref a0), (1, .int (Int32.ofInt 0))], [.int (Int32.ofInt 0)], h)) rfl rfl rfl ?_
  refine xle_next (i := .istore_n 2) (x' := (4, [(0, .ref a0), (1, .int (Int32.ofInt 0)), (2, .int (Int32.ofInt 0))], [], h)) rfl rfl rfl ?_
  exact xle_jump rfl
noncomputable def D_F_howManyFree_4 (z : xzs) (a0 : Nat) (xv1 : Int32) (xv2 : Int32) (h : xH) : Option xR :=
  if ((Int8.ofInt 6).toInt32) ≤ xv2 then
    some (.inl (some (.int xv1)), h)
  else
    (rdR h a0 4 1).bind fun r1 =>
    r1.bind fun a2 =>
    (rdA 1 h a2 xv2).bind fun x3 =>
    if ¬ x3 = 0 then
      B_F_howManyFree_22 z a0 xv1 xv2 h
    else
      B_F_howManyFree_22 z a0 (xv1 + Int32.ofInt 1) xv2 h
theorem E_F_howManyFree_4 (z : xzs) (a0 : Nat) (xv1 : Int32) (xv2 : Int32) (h : xH) : xle (D_F_howManyFree_4 z a0 xv1 xv2 h) (B_F_howManyFree_4 z a0 xv1 xv2 h) := by
  unfold D_F_howManyFree_4 B_F_howManyFree_4
  refine xle_next (i := .iload_n 2) (x' := (5, [(0, .ref a0), (1, .int xv1), (2, .int xv2)], [.int xv2], h)) rfl rfl rfl ?_
  refine xle_next (i := .bipush 6) (x' := (7, [(0, .ref a0), (1, .int xv1), (2, .int xv2)], [.int ((Int8.ofInt 6).toInt32), .int xv2], h)) rfl rfl rfl ?_
  refine xle_icmp (cd := .ge) (q := 28) rfl rfl rfl xc_ge (fun _ => ?_) (fun _ => ?_)
  · refine xle_next (i := .iload_n 1) (x' := (29, [(0, .ref a0), (1, .int xv1), (2, .int xv2)], [.int xv1], h)) rfl rfl rfl ?_
    exact xle_end (i := .ireturn) rfl rfl rfl
  · refine xle_next (i := .aload_n 0) (x' := (11, [(0, .ref a0), (1, .int xv1), (2, .int xv2)], [.ref a0], h)) rfl rfl rfl ?_
    refine xle_getR (f := (4, 1, .array .boolean, 0)) rfl rfl rfl (fun r1 => ?_)
    refine xle_next (i := .iload_n 2) (x' := (15, [(0, .ref a0), (1, .int xv1), (2, .int xv2)], [.int xv2, va_rf r1], h)) rfl rfl rfl ?_
    refine xle_some (fun r_ => (15, [(0, .ref a0), (1, .int xv1), (2, .int xv2)], [.int xv2, va_rf r_], h)) (fun a2 => ?_)
    refine xle_bald rfl rfl (fun x3 => ?_)
    refine xle_if (cd := .ne) (q := 22) rfl rfl rfl xc_ne (fun _ => ?_) (fun _ => ?_)
    · exact xle_jump rfl
    · refine xle_next (i := .iinc 1 1) (x' := (22, [(0, .ref a0), (1, .int (xv1 + Int32.ofInt 1)), (2, .int xv2)], [], h)) rfl rfl rfl ?_
      exact xle_jump rfl
noncomputable def D_F_howManyFree_22 (z : xzs) (a0 : Nat) (xv1 : Int32) (xv2 : Int32) (h : xH) : Option xR :=
  B_F_howManyFree_4 z a0 xv1 (xv2 + Int32.ofInt 1) h
theorem E_F_howManyFree_22 (z : xzs) (a0 : Nat) (xv1 : Int32) (xv2 : Int32) (h : xH) : xle (D_F_howManyFree_22 z a0 xv1 xv2 h) (B_F_howManyFree_22 z a0 xv1 xv2 h) := by
  unfold D_F_howManyFree_22 B_F_howManyFree_22
  refine xle_next (i := .iinc 2 1) (x' := (25, [(0, .ref a0), (1, .int xv1), (2, .int (xv2 + Int32.ofInt 1))], [], h)) rfl rfl rfl ?_
  refine xle_next (i := .goto (-21)) (x' := (4, [(0, .ref a0), (1, .int xv1), (2, .int (xv2 + Int32.ofInt 1))], [], h)) rfl rfl rfl ?_
  exact xle_jump rfl
