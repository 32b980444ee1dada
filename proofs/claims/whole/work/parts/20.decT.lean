noncomputable def B_T_new_31 (z : xzs) (xs0 : Int32) (rs1 : Option Nat) (h : xH) : Option xR := xev (K_T_new z) (31, [], [.int xs0, va_rf rs1], h)
noncomputable def D_T_new_0 (z : xzs) (a0 : Nat) (p1 : Int32) (p2 : Int32) (p3 : Int32) (h : xH) : Option xR :=
  (xwr h a0 5 0 (.int p1)).bind fun h1 =>
  (xwr h1 a0 5 1 (.int p2)).bind fun h2 =>
  (xwr h2 a0 5 2 (.int p3)).bind fun h3 =>
  if ¬ p1 = (Int32.ofInt 3) then
    B_T_new_31 z (Int32.ofInt 0) (some a0) h3
  else
    B_T_new_31 z ((Int8.ofInt 8).toInt32) (some a0) h3
theorem E_T_new (z : xzs) (a0 : Nat) (p1 : Int32) (p2 : Int32) (p3 : Int32) (h : xH) : xle (D_T_new_0 z a0 p1 p2 p3 h) (xfun (K_T_new z) 4 [.ref a0, .int p1, .int p2, .int p3] h) := by
  unfold D_T_new_0
  refine xle_entry (Nat.le_of_ble_eq_true rfl) (xal_c (xca_a _) (xal_c (xca_i _) (xal_c (xca_i _) (xal_c (xca_i _) (rfl))))) ?_
  show xle _ (xev (K_T_new z) (0, [(0, .ref a0), (1, .int p1), (2, .int p2), (3, .int p3)], [], h))
  refine xle_next (i := .aload_n 0) (x' := (1, [(0, .ref a0), (1, .int p1), (2, .int p2), (3, .int p3)], [.ref a0], h)) rfl rfl rfl ?_
  refine xle_next (i := .invokespecial 3) (x' := (4, [(0, .ref a0), (1, .int p1), (2, .int p2), (3, .int p3)], [], h)) rfl rfl rfl ?_
  refine xle_next (i := .aload_n 0) (x' := (5, [(0, .ref a0), (1, .int p1), (2, .int p2), (3, .int p3)], [.ref a0], h)) rfl rfl rfl ?_
  refine xle_next (i := .iload_n 1) (x' := (6, [(0, .ref a0), (1, .int p1), (2, .int p2), (3, .int p3)], [.int p1, .ref a0], h)) rfl rfl rfl ?_
  refine xle_put (v := .int p1) (f := (5, 0, .int, 2)) rfl rfl rfl ⟨by decide, rfl, rfl⟩ (fun h1 => ?_)
  refine xle_next (i := .aload_n 0) (x' := (10, [(0, .ref a0), (1, .int p1), (2, .int p2), (3, .int p3)], [.ref a0], h1)) rfl rfl rfl ?_
  refine xle_next (i := .iload_n 2) (x' := (11, [(0, .ref a0), (1, .int p1), (2, .int p2), (3, .int p3)], [.int p2, .ref a0], h1)) rfl rfl rfl ?_
  refine xle_put (v := .int p2) (f := (5, 1, .int, 2)) rfl rfl rfl ⟨by decide, rfl, rfl⟩ (fun h2 => ?_)
  refine xle_next (i := .aload_n 0) (x' := (15, [(0, .ref a0), (1, .int p1), (2, .int p2), (3, .int p3)], [.ref a0], h2)) rfl rfl rfl ?_
  refine xle_next (i := .iload_n 3) (x' := (16, [(0, .ref a0), (1, .int p1), (2, .int p2), (3, .int p3)], [.int p3, .ref a0], h2)) rfl rfl rfl ?_
  refine xle_put (v := .int p3) (f := (5, 2, .int, 2)) rfl rfl rfl ⟨by decide, rfl, rfl⟩ (fun h3 => ?_)
  refine xle_next (i := .aload_n 0) (x' := (20, [(0, .ref a0), (1, .int p1), (2, .int p2), (3, .int p3)], [.ref a0], h3)) rfl rfl rfl ?_
  refine xle_next (i := .iload_n 1) (x' := (21, [(0, .ref a0), (1, .int p1), (2, .int p2), (3, .int p3)], [.int p1, .ref a0], h3)) rfl rfl rfl ?_
  refine xle_next (i := .iconst 3) (x' := (22, [(0, .ref a0), (1, .int p1), (2, .int p2), (3, .int p3)], [.int (Int32.ofInt 3), .int p1, .ref a0], h3)) rfl rfl rfl ?_
  refine xle_icmp (cd := .ne) (q := 30) rfl rfl rfl xc_ne (fun _ => ?_) (fun _ => ?_)
  · refine xle_next (i := .iconst 0) (x' := (31, [(0, .ref a0), (1, .int p1), (2, .int p2), (3, .int p3)], [.int (Int32.ofInt 0), .ref a0], h3)) rfl rfl rfl ?_
    exact xle_jump rfl
  · refine xle_next (i := .bipush 8) (x' := (27, [(0, .ref a0), (1, .int p1), (2, .int p2), (3, .int p3)], [.int ((Int8.ofInt 8).toInt32), .ref a0], h3)) rfl rfl rfl ?_
    refine xle_next (i := .goto 4) (x' := (31, [(0, .ref a0), (1, .int p1), (2, .int p2), (3, .int p3)], [.int ((Int8.ofInt 8).toInt32), .ref a0], h3)) rfl rfl rfl ?_
    exact xle_jump rfl
noncomputable def D_T_new_31 (z : xzs) (xs0 : Int32) (rs1 : Option Nat) (h : xH) : Option xR :=
  (xnarQ h 2 xs0).bind fun qa4 => xlet qa4.1 qa4.2 fun a4 h5 =>
  rs1.bind fun a6 =>
  (xwr h5 a6 5 3 (va_rf (some a4))).bind fun h7 =>
  some (.inl none, h7)
theorem E_T_new_31 (z : xzs) (xs0 : Int32) (rs1 : Option Nat) (h : xH) : xle (D_T_new_31 z xs0 rs1 h) (B_T_new_31 z xs0 rs1 h) := by
  unfold D_T_new_31 B_T_new_31
  refine xle_newQ (kd := 2) rfl rfl rfl (fun a4 h5 => ?_)
  refine xle_some (fun r_ => (34, [], [.ref a4, va_rf r_], h5)) (fun a6 => ?_)
  refine xle_put (v := va_rf (some a4)) (f := (5, 3, .array (.object "CapKernel$Capability"), 2)) rfl rfl rfl ⟨by decide, xfit_arr _ _⟩ (fun h7 => ?_)
  exact xle_end (i := .return_) rfl rfl rfl
noncomputable def B_T_hasSlot_17 (z : xzs)  (h : xH) : Option xR := xev (K_T_hasSlot z) (17, [], [], h)
noncomputable def B_T_hasSlot_18 (z : xzs) (xs0 : Int32) (h : xH) : Option xR := xev (K_T_hasSlot z) (18, [], [.int xs0], h)
noncomputable def D_T_hasSlot_0 (z : xzs) (a0 : Nat) (p1 : Int32) (h : xH) : Option xR :=
  if p1 < 0 then
    B_T_hasSlot_17 z h
  else
    (rdR h a0 5 3).bind fun r1 =>
    r1.bind fun a2 =>
    (xalen h a2).bind fun n3 =>
    if (Int32.ofNat n3) ≤ p1 then
      B_T_hasSlot_17 z h
    else
      B_T_hasSlot_18 z (Int32.ofInt 1) h
theorem E_T_hasSlot (z : xzs) (a0 : Nat) (p1 : Int32) (h : xH) : xle (D_T_hasSlot_0 z a0 p1 h) (xfun (K_T_hasSlot z) 2 [.ref a0, .int p1] h) := by
  unfold D_T_hasSlot_0
  refine xle_entry (Nat.le_of_ble_eq_true rfl) (xal_c (xca_a _) (xal_c (xca_i _) (rfl))) ?_
  show xle _ (xev (K_T_hasSlot z) (0, [(0, .ref a0), (1, .int p1)], [], h))
  refine xle_next (i := .iload_n 1) (x' := (1, [(0, .ref a0), (1, .int p1)], [.int p1], h)) rfl rfl rfl ?_
  refine xle_if (cd := .lt) (q := 17) rfl rfl rfl xc_lt (fun _ => ?_) (fun _ => ?_)
  · exact xle_jump rfl
  · refine xle_next (i := .iload_n 1) (x' := (5, [(0, .ref a0), (1, .int p1)], [.int p1], h)) rfl rfl rfl ?_
    refine xle_next (i := .aload_n 0) (x' := (6, [(0, .ref a0), (1, .int p1)], [.ref a0, .int p1], h)) rfl rfl rfl ?_
    refine xle_getR (f := (5, 3, .array (.object "CapKernel$Capability"), 0)) rfl rfl rfl (fun r1 => ?_)
    refine xle_some (fun r_ => (9, [(0, .ref a0), (1, .int p1)], [va_rf r_, .int p1], h)) (fun a2 => ?_)
    refine xle_alen rfl rfl (fun n3 => ?_)
    refine xle_icmp (cd := .ge) (q := 17) rfl rfl rfl xc_ge (fun _ => ?_) (fun _ => ?_)
    · exact xle_jump rfl
    · refine xle_next (i := .iconst 1) (x' := (14, [(0, .ref a0), (1, .int p1)], [.int (Int32.ofInt 1)], h)) rfl rfl rfl ?_
      refine xle_next (i := .goto 4) (x' := (18, [(0, .ref a0), (1, .int p1)], [.int (Int32.ofInt 1)], h)) rfl rfl rfl ?_
      exact xle_jump rfl
noncomputable def D_T_hasSlot_17 (z : xzs)  (h : xH) : Option xR :=
  B_T_hasSlot_18 z (Int32.ofInt 0) h
theorem E_T_hasSlot_17 (z : xzs)  (h : xH) : xle (D_T_hasSlot_17 z  h) (B_T_hasSlot_17 z  h) := by
  unfold D_T_hasSlot_17 B_T_hasSlot_17
  refine xle_next (i := .iconst 0) (x' := (18, [], [.int (Int32.ofInt 0)], h)) rfl rfl rfl ?_
  exact xle_jump rfl
noncomputable def D_T_hasSlot_18 (z : xzs) (xs0 : Int32) (h : xH) : Option xR :=
  if xs0 = 0 ∨ xs0 = 1 then some (.inl (some (.int xs0)), h) else none
theorem E_T_hasSlot_18 (z : xzs) (xs0 : Int32) (h : xH) : xle (D_T_hasSlot_18 z xs0 h) (B_T_hasSlot_18 z xs0 h) := by
  unfold D_T_hasSlot_18 B_T_hasSlot_18
  exact xle_zret rfl rfl rfl
noncomputable def B_T_hold_15 (z : xzs)  (h : xH) : Option xR := xev (K_T_hold z) (15, [], [], h)
noncomputable def D_T_hold_0 (z : xzs) (a0 : Nat) (p1 : Int32) (p2 : Option Nat) (h : xH) : Option xR :=
  (xisO h a0 5).bind fun _ => xclI (f_T_hasSlot z [.ref a0, .int p1] h) fun x2 h1 =>
  if x2 = 0 then
    B_T_hold_15 z h1
  else
    (rdR h1 a0 5 3).bind fun r3 =>
    r3.bind fun a4 =>
    (wrQ h1 a4 p1 p2).bind fun h5 =>
    B_T_hold_15 z h5
theorem E_T_hold (z : xzs) (a0 : Nat) (p1 : Int32) (p2 : Option Nat) (h : xH) : xle (D_T_hold_0 z a0 p1 p2 h) (xfun (K_T_hold z) 3 [.ref a0, .int p1, va_rf p2] h) := by
  unfold D_T_hold_0
  refine xle_entry (Nat.le_of_ble_eq_true rfl) (xal_c (xca_a _) (xal_c (xca_i _) (xal_c (xca_r _) (rfl)))) ?_
  show xle _ (xev (K_T_hold z) (0, [(0, .ref a0), (1, .int p1), (2, va_rf p2)], [], h))
  refine xle_next (i := .aload_n 0) (x' := (1, [(0, .ref a0), (1, .int p1), (2, va_rf p2)], [.ref a0], h)) rfl rfl rfl ?_
  refine xle_next (i := .iload_n 1) (x' := (2, [(0, .ref a0), (1, .int p1), (2, va_rf p2)], [.int p1, .ref a0], h)) rfl rfl rfl ?_
  refine xle_isO (i := .invokevirtual 27) (bq := a0) (ci := 5) (fo := (f_T_hasSlot z [.ref a0, .int p1] h).bind (xback 2 [(0, .ref a0), (1, .int p1), (2, va_rf p2)] [])) rfl rfl rfl (fun hs => ?_)
  refine xle_clI (t := []) rfl rfl hs (fun x2 h1 => ?_)
  refine xle_if (cd := .eq) (q := 15) rfl rfl rfl xc_eq (fun _ => ?_) (fun _ => ?_)
  · exact xle_jump rfl
  · refine xle_next (i := .aload_n 0) (x' := (9, [(0, .ref a0), (1, .int p1), (2, va_rf p2)], [.ref a0], h1)) rfl rfl rfl ?_
    refine xle_getR (f := (5, 3, .array (.object "CapKernel$Capability"), 0)) rfl rfl rfl (fun r3 => ?_)
    refine xle_next (i := .iload_n 1) (x' := (13, [(0, .ref a0), (1, .int p1), (2, va_rf p2)], [.int p1, va_rf r3], h1)) rfl rfl rfl ?_
    refine xle_aldn (k := 2) (r := p2) rfl rfl rfl ?_
    refine xle_some (fun r_ => (14, [(0, .ref a0), (1, .int p1), (2, va_rf p2)], [va_rf p2, .int p1, va_rf r_], h1)) (fun a4 => ?_)
    refine xle_aast (y := p2) rfl rfl (fun h5 => ?_)
    exact xle_jump rfl
noncomputable def D_T_hold_15 (z : xzs)  (h : xH) : Option xR :=
  some (.inl none, h)
theorem E_T_hold_15 (z : xzs)  (h : xH) : xle (D_T_hold_15 z  h) (B_T_hold_15 z  h) := by
  unfold D_T_hold_15 B_T_hold_15
  exact xle_end (i := .return_) rfl rfl rfl
noncomputable def B_T_held_18 (z : xzs) (rs0 : Option Nat) (h : xH) : Option xR := xev (K_T_held z) (18, [], [va_rf rs0], h)
noncomputable def D_T_held_0 (z : xzs) (a0 : Nat) (p1 : Int32) (h : xH) : Option xR :=
  (xisO h a0 5).bind fun _ => xclI (f_T_hasSlot z [.ref a0, .int p1] h) fun x2 h1 =>
  if x2 = 0 then
    B_T_held_18 z none h1
  else
    (rdR h1 a0 5 3).bind fun r3 =>
    r3.bind fun a4 =>
    (rdQ h1 a4 p1).bind fun r5 =>
    B_T_held_18 z r5 h1
theorem E_T_held (z : xzs) (a0 : Nat) (p1 : Int32) (h : xH) : xle (D_T_held_0 z a0 p1 h) (xfun (K_T_held z) 2 [.ref a0, .int p1] h) := by
  unfold D_T_held_0
  refine xle_entry (Nat.le_of_ble_eq_true rfl) (xal_c (xca_a _) (xal_c (xca_i _) (rfl))) ?_
  show xle _ (xev (K_T_held z) (0, [(0, .ref a0), (1, .int p1)], [], h))
  refine xle_next (i := .aload_n 0) (x' := (1, [(0, .ref a0), (1, .int p1)], [.ref a0], h)) rfl rfl rfl ?_
  refine xle_next (i := .iload_n 1) (x' := (2, [(0, .ref a0), (1, .int p1)], [.int p1, .ref a0], h)) rfl rfl rfl ?_
  refine xle_isO (i := .invokevirtual 27) (bq := a0) (ci := 5) (fo := (f_T_hasSlot z [.ref a0, .int p1] h).bind (xback 2 [(0, .ref a0), (1, .int p1)] [])) rfl rfl rfl (fun hs => ?_)
  refine xle_clI (t := []) rfl rfl hs (fun x2 h1 => ?_)
  refine xle_if (cd := .eq) (q := 17) rfl rfl rfl xc_eq (fun _ => ?_) (fun _ => ?_)
  · refine xle_next (i := .aconst_null) (x' := (18, [(0, .ref a0), (1, .int p1)], [.null], h1)) rfl rfl rfl ?_
    exact xle_jump rfl
  · refine xle_next (i := .aload_n 0) (x' := (9, [(0, .ref a0), (1, .int p1)], [.ref a0], h1)) rfl rfl rfl ?_
    refine xle_getR (f := (5, 3, .array (.object "CapKernel$Capability"), 0)) rfl rfl rfl (fun r3 => ?_)
    refine xle_next (i := .iload_n 1) (x' := (13, [(0, .ref a0), (1, .int p1)], [.int p1, va_rf r3], h1)) rfl rfl rfl ?_
    refine xle_some (fun r_ => (13, [(0, .ref a0), (1, .int p1)], [.int p1, va_rf r_], h1)) (fun a4 => ?_)
    refine xle_aald rfl rfl (fun r5 => ?_)
    refine xle_next (i := .goto 4) (x' := (18, [(0, .ref a0), (1, .int p1)], [va_rf r5], h1)) rfl rfl rfl ?_
    exact xle_jump rfl
noncomputable def D_T_held_18 (z : xzs) (rs0 : Option Nat) (h : xH) : Option xR :=
  some (.inl (some (va_rf rs0)), h)
theorem E_T_held_18 (z : xzs) (rs0 : Option Nat) (h : xH) : xle (D_T_held_18 z rs0 h) (B_T_held_18 z rs0 h) := by
  unfold D_T_held_18 B_T_held_18
  exact xle_aret (r := rs0) rfl rfl rfl rfl
noncomputable def B_T_isFree_21 (z : xzs)  (h : xH) : Option xR := xev (K_T_isFree z) (21, [], [], h)
noncomputable def B_T_isFree_22 (z : xzs) (xs0 : Int32) (h : xH) : Option xR := xev (K_T_isFree z) (22, [], [.int xs0], h)
noncomputable def D_T_isFree_0 (z : xzs) (a0 : Nat) (p1 : Int32) (h : xH) : Option xR :=
  (xisO h a0 5).bind fun _ => xclI (f_T_hasSlot z [.ref a0, .int p1] h) fun x2 h1 =>
  if x2 = 0 then
    B_T_isFree_21 z h1
  else
    (rdR h1 a0 5 3).bind fun r3 =>
    r3.bind fun a4 =>
    (rdQ h1 a4 p1).bind fun r5 =>
    xcase r5 (
      B_T_isFree_22 z (Int32.ofInt 1) h1
    ) fun a6 =>
      B_T_isFree_21 z h1
theorem E_T_isFree (z : xzs) (a0 : Nat) (p1 : Int32) (h : xH) : xle (D_T_isFree_0 z a0 p1 h) (xfun (K_T_isFree z) 2 [.ref a0, .int p1] h) := by
  unfold D_T_isFree_0
  refine xle_entry (Nat.le_of_ble_eq_true rfl) (xal_c (xca_a _) (xal_c (xca_i _) (rfl))) ?_
  show xle _ (xev (K_T_isFree z) (0, [(0, .ref a0), (1, .int p1)], [], h))
  refine xle_next (i := .aload_n 0) (x' := (1, [(0, .ref a0), (1, .int p1)], [.ref a0], h)) rfl rfl rfl ?_
  refine xle_next (i := .iload_n 1) (x' := (2, [(0, .ref a0), (1, .int p1)], [.int p1, .ref a0], h)) rfl rfl rfl ?_
  refine xle_isO (i := .invokevirtual 27) (bq := a0) (ci := 5) (fo := (f_T_hasSlot z [.ref a0, .int p1] h).bind (xback 2 [(0, .ref a0), (1, .int p1)] [])) rfl rfl rfl (fun hs => ?_)
  refine xle_clI (t := []) rfl rfl hs (fun x2 h1 => ?_)
  refine xle_if (cd := .eq) (q := 21) rfl rfl rfl xc_eq (fun _ => ?_) (fun _ => ?_)
  · exact xle_jump rfl
  · refine xle_next (i := .aload_n 0) (x' := (9, [(0, .ref a0), (1, .int p1)], [.ref a0], h1)) rfl rfl rfl ?_
    refine xle_getR (f := (5, 3, .array (.object "CapKernel$Capability"), 0)) rfl rfl rfl (fun r3 => ?_)
    refine xle_next (i := .iload_n 1) (x' := (13, [(0, .ref a0), (1, .int p1)], [.int p1, va_rf r3], h1)) rfl rfl rfl ?_
    refine xle_some (fun r_ => (13, [(0, .ref a0), (1, .int p1)], [.int p1, va_rf r_], h1)) (fun a4 => ?_)
    refine xle_aald rfl rfl (fun r5 => ?_)
    refine xle_case (fun r_ => (14, [(0, .ref a0), (1, .int p1)], [va_rf r_], h1)) ?_ (fun a6 => ?_)
    · refine xle_next (i := .ifnonnull 7) (x' := (17, [(0, .ref a0), (1, .int p1)], [], h1)) rfl rfl rfl ?_
      refine xle_next (i := .iconst 1) (x' := (18, [(0, .ref a0), (1, .int p1)], [.int (Int32.ofInt 1)], h1)) rfl rfl rfl ?_
      refine xle_next (i := .goto 4) (x' := (22, [(0, .ref a0), (1, .int p1)], [.int (Int32.ofInt 1)], h1)) rfl rfl rfl ?_
      exact xle_jump rfl
    · refine xle_next (i := .ifnonnull 7) (x' := (21, [(0, .ref a0), (1, .int p1)], [], h1)) rfl rfl rfl ?_
      exact xle_jump rfl
noncomputable def D_T_isFree_21 (z : xzs)  (h : xH) : Option xR :=
  B_T_isFree_22 z (Int32.ofInt 0) h
theorem E_T_isFree_21 (z : xzs)  (h : xH) : xle (D_T_isFree_21 z  h) (B_T_isFree_21 z  h) := by
  unfold D_T_isFree_21 B_T_isFree_21
  refine xle_next (i := .iconst 0) (x' := (22, [], [.int (Int32.ofInt 0)], h)) rfl rfl rfl ?_
  exact xle_jump rfl
noncomputable def D_T_isFree_22 (z : xzs) (xs0 : Int32) (h : xH) : Option xR :=
  if xs0 = 0 ∨ xs0 = 1 then some (.inl (some (.int xs0)), h) else none
theorem E_T_isFree_22 (z : xzs) (xs0 : Int32) (h : xH) : xle (D_T_isFree_22 z xs0 h) (B_T_isFree_22 z xs0 h) := by
  unfold D_T_isFree_22 B_T_isFree_22
  exact xle_zret rfl rfl rfl
noncomputable def B_T_content_18 (z : xzs) (xs0 : Int32) (h : xH) : Option xR := xev (K_T_content z) (18, [], [.int xs0], h)
noncomputable def D_T_content_0 (z : xzs) (a0 : Nat) (h : xH) : Option xR :=
  (rdI h a0 5 0).bind fun x1 =>
  if ¬ x1 = 0 then
    (rdI h a0 5 6).bind fun x2 =>
    B_T_content_18 z x2 h
  else
    (rdI h a0 5 5).bind fun x3 =>
    B_T_content_18 z x3 h
theorem E_T_content (z : xzs) (a0 : Nat) (h : xH) : xle (D_T_content_0 z a0 h) (xfun (K_T_content z) 1 [.ref a0] h) := by
  unfold D_T_content_0
  refine xle_entry (Nat.le_of_ble_eq_true rfl) (xal_c (xca_a _) (rfl)) ?_
  show xle _ (xev (K_T_content z) (0, [(0, .ref a0)], [], h))
  refine xle_next (i := .aload_n 0) (x' := (1, [(0, .ref a0)], [.ref a0], h)) rfl rfl rfl ?_
  refine xle_getI (f := (5, 0, .int, 0)) rfl rfl rfl (fun x1 => ?_)
  refine xle_if (cd := .ne) (q := 14) rfl rfl rfl xc_ne (fun _ => ?_) (fun _ => ?_)
  · refine xle_next (i := .aload_n 0) (x' := (15, [(0, .ref a0)], [.ref a0], h)) rfl rfl rfl ?_
    refine xle_getI (f := (5, 6, .int, 1)) rfl rfl rfl (fun x2 => ?_)
    exact xle_jump rfl
  · refine xle_next (i := .aload_n 0) (x' := (8, [(0, .ref a0)], [.ref a0], h)) rfl rfl rfl ?_
    refine xle_getI (f := (5, 5, .int, 1)) rfl rfl rfl (fun x3 => ?_)
    refine xle_next (i := .goto 7) (x' := (18, [(0, .ref a0)], [.int x3], h)) rfl rfl rfl ?_
    exact xle_jump rfl
noncomputable def D_T_content_18 (z : xzs) (xs0 : Int32) (h : xH) : Option xR :=
  some (.inl (some (.int xs0)), h)
theorem E_T_content_18 (z : xzs) (xs0 : Int32) (h : xH) : xle (D_T_content_18 z xs0 h) (B_T_content_18 z xs0 h) := by
  unfold D_T_content_18 B_T_content_18
  exact xle_end (i := .ireturn) rfl rfl rfl
