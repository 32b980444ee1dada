noncomputable def D_D_new_0 (z : xzs) (a0 : Nat) (h : xH) : Option xR :=
  (xnarI h 0 ((Int8.ofInt 48).toInt32)).bind fun qa1 => xlet qa1.1 qa1.2 fun a1 h2 =>
  (xwr h2 a0 3 0 (va_rf (some a1))).bind fun h3 =>
  some (.inl none, h3)
theorem E_D_new (z : xzs) (a0 : Nat) (h : xH) : xle (D_D_new_0 z a0 h) (xfun (K_D_new z) 1 [.ref a0] h) := by
  unfold D_D_new_0
  refine xle_entry (Nat.le_of_ble_eq_true rfl) (xal_c (xca_a _) (rfl)) ?_
  show xle _ (xev (K_D_new z) (0, [(0, .ref a0)], [], h))
  refine xle_next (i := .aload_n 0) (x' := (1, [(0, .ref a0)], [.ref a0], h)) rfl rfl rfl ?_
  refine xle_next (i := .invokespecial 1) (x' := (4, [(0, .ref a0)], [], h)) rfl rfl rfl ?_
  refine xle_next (i := .aload_n 0) (x' := (5, [(0, .ref a0)], [.ref a0], h)) rfl rfl rfl ?_
  refine xle_next (i := .bipush 48) (x' := (7, [(0, .ref a0)], [.int ((Int8.ofInt 48).toInt32), .ref a0], h)) rfl rfl rfl ?_
  refine xle_newI rfl rfl (fun a1 h2 => ?_)
  refine xle_put (v := va_rf (some a1)) (f := (3, 0, .array .int, 2)) rfl rfl rfl ⟨by decide, xfit_arr _ _⟩ (fun h3 => ?_)
  exact xle_end (i := .return_) rfl rfl rfl
noncomputable def B_D_fits_21 (z : xzs)  (h : xH) : Option xR := xev (K_D_fits z) (21, [], [], h)
noncomputable def B_D_fits_22 (z : xzs) (xs0 : Int32) (h : xH) : Option xR := xev (K_D_fits z) (22, [], [.int xs0], h)
noncomputable def D_D_fits_0 (z : xzs) (a0 : Nat) (p1 : Int32) (p2 : Option Nat) (h : xH) : Option xR :=
  if p1 < 0 then
    B_D_fits_21 z h
  else
    if ((Int8.ofInt 6).toInt32) ≤ p1 then
      B_D_fits_21 z h
    else
      p2.bind fun a1 =>
      (xalen h a1).bind fun n2 =>
      if ¬ (Int32.ofNat n2) = ((Int8.ofInt 8).toInt32) then
        B_D_fits_21 z h
      else
        B_D_fits_22 z (Int32.ofInt 1) h
theorem E_D_fits (z : xzs) (a0 : Nat) (p1 : Int32) (p2 : Option Nat) (h : xH) : xle (D_D_fits_0 z a0 p1 p2 h) (xfun (K_D_fits z) 3 [.ref a0, .int p1, va_rf p2] h) := by
  unfold D_D_fits_0
  refine xle_entry (Nat.le_of_ble_eq_true rfl) (xal_c (xca_a _) (xal_c (xca_i _) (xal_c (xca_r _) (rfl)))) ?_
  show xle _ (xev (K_D_fits z) (0, [(0, .ref a0), (1, .int p1), (2, va_rf p2)], [], h))
  refine xle_next (i := .iload_n 1) (x' := (1, [(0, .ref a0), (1, .int p1), (2, va_rf p2)], [.int p1], h)) rfl rfl rfl ?_
  refine xle_if (cd := .lt) (q := 21) rfl rfl rfl xc_lt (fun _ => ?_) (fun _ => ?_)
  · exact xle_jump rfl
  · refine xle_next (i := .iload_n 1) (x' := (5, [(0, .ref a0), (1, .int p1), (2, va_rf p2)], [.int p1], h)) rfl rfl rfl ?_
    refine xle_next (i := .bipush 6) (x' := (7, [(0, .ref a0), (1, .int p1), (2, va_rf p2)], [.int ((Int8.ofInt 6).toInt32), .int p1], h)) rfl rfl rfl ?_
    refine xle_icmp (cd := .ge) (q := 21) rfl rfl rfl xc_ge (fun _ => ?_) (fun _ => ?_)
    · exact xle_jump rfl
    · refine xle_aldn (k := 2) (r := p2) rfl rfl rfl ?_
      refine xle_some (fun r_ => (11, [(0, .ref a0), (1, .int p1), (2, va_rf r_)], [va_rf r_], h)) (fun a1 => ?_)
      refine xle_alen rfl rfl (fun n2 => ?_)
      refine xle_next (i := .bipush 8) (x' := (14, [(0, .ref a0), (1, .int p1), (2, .ref a1)], [.int ((Int8.ofInt 8).toInt32), .int (Int32.ofNat n2)], h)) rfl rfl rfl ?_
      refine xle_icmp (cd := .ne) (q := 21) rfl rfl rfl xc_ne (fun _ => ?_) (fun _ => ?_)
      · exact xle_jump rfl
      · refine xle_next (i := .iconst 1) (x' := (18, [(0, .ref a0), (1, .int p1), (2, .ref a1)], [.int (Int32.ofInt 1)], h)) rfl rfl rfl ?_
        refine xle_next (i := .goto 4) (x' := (22, [(0, .ref a0), (1, .int p1), (2, .ref a1)], [.int (Int32.ofInt 1)], h)) rfl rfl rfl ?_
        exact xle_jump rfl
noncomputable def D_D_fits_21 (z : xzs)  (h : xH) : Option xR :=
  B_D_fits_22 z (Int32.ofInt 0) h
theorem E_D_fits_21 (z : xzs)  (h : xH) : xle (D_D_fits_21 z  h) (B_D_fits_21 z  h) := by
  unfold D_D_fits_21 B_D_fits_21
  refine xle_next (i := .iconst 0) (x' := (22, [], [.int (Int32.ofInt 0)], h)) rfl rfl rfl ?_
  exact xle_jump rfl
noncomputable def D_D_fits_22 (z : xzs) (xs0 : Int32) (h : xH) : Option xR :=
  if xs0 = 0 ∨ xs0 = 1 then some (.inl (some (.int xs0)), h) else none
theorem E_D_fits_22 (z : xzs) (xs0 : Int32) (h : xH) : xle (D_D_fits_22 z xs0 h) (B_D_fits_22 z xs0 h) := by
  unfold D_D_fits_22 B_D_fits_22
  exact xle_zret rfl rfl rfl
noncomputable def B_D_readBlock_34 (z : xzs)  (h : xH) : Option xR := xev (K_D_readBlock z) (34, [], [], h)
noncomputable def D_D_readBlock_0 (z : xzs) (a0 : Nat) (p1 : Int32) (p2 : Option Nat) (h : xH) : Option xR :=
  (xisO h a0 3).bind fun _ => xclI (f_D_fits z [.ref a0, .int p1, va_rf p2] h) fun x2 h1 =>
  if x2 = 0 then
    B_D_readBlock_34 z h1
  else
    (rdR h1 a0 3 0).bind fun r3 =>
    p2.bind fun a4 =>
    r3.bind fun a5 =>
    (xcpy h1 a5 (p1 * ((Int8.ofInt 8).toInt32)) a4 (Int32.ofInt 0) ((Int8.ofInt 8).toInt32)).bind fun h6 =>
    (rdI h6 a0 3 1).bind fun x7 =>
    (xwr h6 a0 3 1 (.int (x7 + (Int32.ofInt 1)))).bind fun h8 =>
    B_D_readBlock_34 z h8
theorem E_D_readBlock (z : xzs) (a0 : Nat) (p1 : Int32) (p2 : Option Nat) (h : xH) : xle (D_D_readBlock_0 z a0 p1 p2 h) (xfun (K_D_readBlock z) 3 [.ref a0, .int p1, va_rf p2] h) := by
  unfold D_D_readBlock_0
  refine xle_entry (Nat.le_of_ble_eq_true rfl) (xal_c (xca_a _) (xal_c (xca_i _) (xal_c (xca_r _) (rfl)))) ?_
  show xle _ (xev (K_D_readBlock z) (0, [(0, .ref a0), (1, .int p1), (2, va_rf p2)], [], h))
  refine xle_next (i := .aload_n 0) (x' := (1, [(0, .ref a0), (1, .int p1), (2, va_rf p2)], [.ref a0], h)) rfl rfl rfl ?_
  refine xle_next (i := .iload_n 1) (x' := (2, [(0, .ref a0), (1, .int p1), (2, va_rf p2)], [.int p1, .ref a0], h)) rfl rfl rfl ?_
  refine xle_aldn (k := 2) (r := p2) rfl rfl rfl ?_
  refine xle_isO (i := .invokevirtual 13) (bq := a0) (ci := 3) (fo := (f_D_fits z [.ref a0, .int p1, va_rf p2] h).bind (xback 3 [(0, .ref a0), (1, .int p1), (2, va_rf p2)] [])) rfl rfl rfl (fun hs => ?_)
  refine xle_clI (t := []) rfl rfl hs (fun x2 h1 => ?_)
  refine xle_if (cd := .eq) (q := 34) rfl rfl rfl xc_eq (fun _ => ?_) (fun _ => ?_)
  · exact xle_jump rfl
  · refine xle_next (i := .aload_n 0) (x' := (10, [(0, .ref a0), (1, .int p1), (2, va_rf p2)], [.ref a0], h1)) rfl rfl rfl ?_
    refine xle_getR (f := (3, 0, .array .int, 0)) rfl rfl rfl (fun r3 => ?_)
    refine xle_next (i := .iload_n 1) (x' := (14, [(0, .ref a0), (1, .int p1), (2, va_rf p2)], [.int p1, va_rf r3], h1)) rfl rfl rfl ?_
    refine xle_next (i := .bipush 8) (x' := (16, [(0, .ref a0), (1, .int p1), (2, va_rf p2)], [.int ((Int8.ofInt 8).toInt32), .int p1, va_rf r3], h1)) rfl rfl rfl ?_
    refine xle_next (i := .imul) (x' := (17, [(0, .ref a0), (1, .int p1), (2, va_rf p2)], [.int (p1 * ((Int8.ofInt 8).toInt32)), va_rf r3], h1)) rfl rfl rfl ?_
    refine xle_aldn (k := 2) (r := p2) rfl rfl rfl ?_
    refine xle_next (i := .iconst 0) (x' := (19, [(0, .ref a0), (1, .int p1), (2, va_rf p2)], [.int (Int32.ofInt 0), va_rf p2, .int (p1 * ((Int8.ofInt 8).toInt32)), va_rf r3], h1)) rfl rfl rfl ?_
    refine xle_next (i := .bipush 8) (x' := (21, [(0, .ref a0), (1, .int p1), (2, va_rf p2)], [.int ((Int8.ofInt 8).toInt32), .int (Int32.ofInt 0), va_rf p2, .int (p1 * ((Int8.ofInt 8).toInt32)), va_rf r3], h1)) rfl rfl rfl ?_
    refine xle_some (fun r_ => (21, [(0, .ref a0), (1, .int p1), (2, va_rf r_)], [.int ((Int8.ofInt 8).toInt32), .int (Int32.ofInt 0), va_rf r_, .int (p1 * ((Int8.ofInt 8).toInt32)), va_rf r3], h1)) (fun a4 => ?_)
    refine xle_some (fun r_ => (21, [(0, .ref a0), (1, .int p1), (2, .ref a4)], [.int ((Int8.ofInt 8).toInt32), .int (Int32.ofInt 0), .ref a4, .int (p1 * ((Int8.ofInt 8).toInt32)), va_rf r_], h1)) (fun a5 => ?_)
    refine xle_copy rfl rfl rfl rfl (Nat.le_of_ble_eq_true rfl) (fun h6 => ?_)
    refine xle_next (i := .aload_n 0) (x' := (25, [(0, .ref a0), (1, .int p1), (2, .ref a4)], [.ref a0], h6)) rfl rfl rfl ?_
    refine xle_next (i := .dup) (x' := (26, [(0, .ref a0), (1, .int p1), (2, .ref a4)], [.ref a0, .ref a0], h6)) rfl rfl rfl ?_
    refine xle_getI (f := (3, 1, .int, 1)) rfl rfl rfl (fun x7 => ?_)
    refine xle_next (i := .iconst 1) (x' := (30, [(0, .ref a0), (1, .int p1), (2, .ref a4)], [.int (Int32.ofInt 1), .int x7, .ref a0], h6)) rfl rfl rfl ?_
    refine xle_next (i := .iadd) (x' := (31, [(0, .ref a0), (1, .int p1), (2, .ref a4)], [.int (x7 + (Int32.ofInt 1)), .ref a0], h6)) rfl rfl rfl ?_
    refine xle_put (v := .int (x7 + (Int32.ofInt 1))) (f := (3, 1, .int, 1)) rfl rfl rfl ⟨by decide, rfl, rfl⟩ (fun h8 => ?_)
    exact xle_jump rfl
noncomputable def D_D_readBlock_34 (z : xzs)  (h : xH) : Option xR :=
  some (.inl none, h)
theorem E_D_readBlock_34 (z : xzs)  (h : xH) : xle (D_D_readBlock_34 z  h) (B_D_readBlock_34 z  h) := by
  unfold D_D_readBlock_34 B_D_readBlock_34
  exact xle_end (i := .return_) rfl rfl rfl
noncomputable def B_D_writeBlock_34 (z : xzs)  (h : xH) : Option xR := xev (K_D_writeBlock z) (34, [], [], h)
noncomputable def D_D_writeBlock_0 (z : xzs) (a0 : Nat) (p1 : Int32) (p2 : Option Nat) (h : xH) : Option xR :=
  (xisO h a0 3).bind fun _ => xclI (f_D_fits z [.ref a0, .int p1, va_rf p2] h) fun x2 h1 =>
  if x2 = 0 then
    B_D_writeBlock_34 z h1
  else
    (rdR h1 a0 3 0).bind fun r3 =>
    r3.bind fun a4 =>
    p2.bind fun a5 =>
    (xcpy h1 a5 (Int32.ofInt 0) a4 (p1 * ((Int8.ofInt 8).toInt32)) ((Int8.ofInt 8).toInt32)).bind fun h6 =>
    (rdI h6 a0 3 2).bind fun x7 =>
    (xwr h6 a0 3 2 (.int (x7 + (Int32.ofInt 1)))).bind fun h8 =>
    B_D_writeBlock_34 z h8
theorem E_D_writeBlock (z : xzs) (a0 : Nat) (p1 : Int32) (p2 : Option Nat) (h : xH) : xle (D_D_writeBlock_0 z a0 p1 p2 h) (xfun (K_D_writeBlock z) 3 [.ref a0, .int p1, va_rf p2] h) := by
  unfold D_D_writeBlock_0
  refine xle_entry (Nat.le_of_ble_eq_true rfl) (xal_c (xca_a _) (xal_c (xca_i _) (xal_c (xca_r _) (rfl)))) ?_
  show xle _ (xev (K_D_writeBlock z) (0, [(0, .ref a0), (1, .int p1), (2, va_rf p2)], [], h))
  refine xle_next (i := .aload_n 0) (x' := (1, [(0, .ref a0), (1, .int p1), (2, va_rf p2)], [.ref a0], h)) rfl rfl rfl ?_
  refine xle_next (i := .iload_n 1) (x' := (2, [(0, .ref a0), (1, .int p1), (2, va_rf p2)], [.int p1, .ref a0], h)) rfl rfl rfl ?_
  refine xle_aldn (k := 2) (r := p2) rfl rfl rfl ?_
  refine xle_isO (i := .invokevirtual 13) (bq := a0) (ci := 3) (fo := (f_D_fits z [.ref a0, .int p1, va_rf p2] h).bind (xback 3 [(0, .ref a0), (1, .int p1), (2, va_rf p2)] [])) rfl rfl rfl (fun hs => ?_)
  refine xle_clI (t := []) rfl rfl hs (fun x2 h1 => ?_)
  refine xle_if (cd := .eq) (q := 34) rfl rfl rfl xc_eq (fun _ => ?_) (fun _ => ?_)
  · exact xle_jump rfl
  · refine xle_aldn (k := 2) (r := p2) rfl rfl rfl ?_
    refine xle_next (i := .iconst 0) (x' := (11, [(0, .ref a0), (1, .int p1), (2, va_rf p2)], [.int (Int32.ofInt 0), va_rf p2], h1)) rfl rfl rfl ?_
    refine xle_next (i := .aload_n 0) (x' := (12, [(0, .ref a0), (1, .int p1), (2, va_rf p2)], [.ref a0, .int (Int32.ofInt 0), va_rf p2], h1)) rfl rfl rfl ?_
    refine xle_getR (f := (3, 0, .array .int, 0)) rfl rfl rfl (fun r3 => ?_)
    refine xle_next (i := .iload_n 1) (x' := (16, [(0, .ref a0), (1, .int p1), (2, va_rf p2)], [.int p1, va_rf r3, .int (Int32.ofInt 0), va_rf p2], h1)) rfl rfl rfl ?_
    refine xle_next (i := .bipush 8) (x' := (18, [(0, .ref a0), (1, .int p1), (2, va_rf p2)], [.int ((Int8.ofInt 8).toInt32), .int p1, va_rf r3, .int (Int32.ofInt 0), va_rf p2], h1)) rfl rfl rfl ?_
    refine xle_next (i := .imul) (x' := (19, [(0, .ref a0), (1, .int p1), (2, va_rf p2)], [.int (p1 * ((Int8.ofInt 8).toInt32)), va_rf r3, .int (Int32.ofInt 0), va_rf p2], h1)) rfl rfl rfl ?_
    refine xle_next (i := .bipush 8) (x' := (21, [(0, .ref a0), (1, .int p1), (2, va_rf p2)], [.int ((Int8.ofInt 8).toInt32), .int (p1 * ((Int8.ofInt 8).toInt32)), va_rf r3, .int (Int32.ofInt 0), va_rf p2], h1)) rfl rfl rfl ?_
    refine xle_some (fun r_ => (21, [(0, .ref a0), (1, .int p1), (2, va_rf p2)], [.int ((Int8.ofInt 8).toInt32), .int (p1 * ((Int8.ofInt 8).toInt32)), va_rf r_, .int (Int32.ofInt 0), va_rf p2], h1)) (fun a4 => ?_)
    refine xle_some (fun r_ => (21, [(0, .ref a0), (1, .int p1), (2, va_rf r_)], [.int ((Int8.ofInt 8).toInt32), .int (p1 * ((Int8.ofInt 8).toInt32)), .ref a4, .int (Int32.ofInt 0), va_rf r_], h1)) (fun a5 => ?_)
    refine xle_copy rfl rfl rfl rfl (Nat.le_of_ble_eq_true rfl) (fun h6 => ?_)
    refine xle_next (i := .aload_n 0) (x' := (25, [(0, .ref a0), (1, .int p1), (2, .ref a5)], [.ref a0], h6)) rfl rfl rfl ?_
    refine xle_next (i := .dup) (x' := (26, [(0, .ref a0), (1, .int p1), (2, .ref a5)], [.ref a0, .ref a0], h6)) rfl rfl rfl ?_
    refine xle_getI (f := (3, 2, .int, 1)) rfl rfl rfl (fun x7 => ?_)
    refine xle_next (i := .iconst 1) (x' := (30, [(0, .ref a0), (1, .int p1), (2, .ref a5)], [.int (Int32.ofInt 1), .int x7, .ref a0], h6)) rfl rfl rfl ?_
    refine xle_next (i := .iadd) (x' := (31, [(0, .ref a0), (1, .int p1), (2, .ref a5)], [.int (x7 + (Int32.ofInt 1)), .ref a0], h6)) rfl rfl rfl ?_
    refine xle_put (v := .int (x7 + (Int32.ofInt 1))) (f := (3, 2, .int, 1)) rfl rfl rfl ⟨by decide, rfl, rfl⟩ (fun h8 => ?_)
    exact xle_jump rfl
noncomputable def D_D_writeBlock_34 (z : xzs)  (h : xH) : Option xR :=
  some (.inl none, h)
theorem E_D_writeBlock_34 (z : xzs)  (h : xH) : xle (D_D_writeBlock_34 z  h) (B_D_writeBlock_34 z  h) := by
  unfold D_D_writeBlock_34 B_D_writeBlock_34
  exact xle_end (i := .return_) rfl rfl rfl
