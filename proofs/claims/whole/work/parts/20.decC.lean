noncomputable def D_C_new_0 (z : xzs) (a0 : Nat) (p1 : Option Nat) (p2 : Int32) (p3 : Int32) (p4 : Option Nat) (h : xH) : Option xR :=
  (xwr h a0 1 0 (va_rf p1)).bind fun h1 =>
  (xwr h1 a0 1 1 (.int p2)).bind fun h2 =>
  (xwr h2 a0 1 2 (.int p3)).bind fun h3 =>
  (xwr h3 a0 1 3 (va_rf p4)).bind fun h4 =>
  some (.inl none, h4)
theorem E_C_new (z : xzs) (a0 : Nat) (p1 : Option Nat) (p2 : Int32) (p3 : Int32) (p4 : Option Nat) (h : xH) : xle (D_C_new_0 z a0 p1 p2 p3 p4 h) (xfun (K_C_new z) 5 [.ref a0, va_rf p1, .int p2, .int p3, va_rf p4] h) := by
  unfold D_C_new_0
  refine xle_entry (Nat.le_of_ble_eq_true rfl) (xal_c (xca_a _) (xal_c (xca_r _) (xal_c (xca_i _) (xal_c (xca_i _) (xal_c (xca_r _) (rfl)))))) ?_
  show xle _ (xev (K_C_new z) (0, [(0, .ref a0), (1, va_rf p1), (2, .int p2), (3, .int p3), (4, va_rf p4)], [], h))
  refine xle_next (i := .aload_n 0) (x' := (1, [(0, .ref a0), (1, va_rf p1), (2, .int p2), (3, .int p3), (4, va_rf p4)], [.ref a0], h)) rfl rfl rfl ?_
  refine xle_next (i := .invokespecial 1) (x' := (4, [(0, .ref a0), (1, va_rf p1), (2, .int p2), (3, .int p3), (4, va_rf p4)], [], h)) rfl rfl rfl ?_
  refine xle_next (i := .aload_n 0) (x' := (5, [(0, .ref a0), (1, va_rf p1), (2, .int p2), (3, .int p3), (4, va_rf p4)], [.ref a0], h)) rfl rfl rfl ?_
  refine xle_aldn (k := 1) (r := p1) rfl rfl rfl ?_
  refine xle_put (v := va_rf p1) (f := (1, 0, .object "CapKernel$Thing", 2)) rfl rfl rfl ⟨by decide, xfit_obj _ _⟩ (fun h1 => ?_)
  refine xle_next (i := .aload_n 0) (x' := (10, [(0, .ref a0), (1, va_rf p1), (2, .int p2), (3, .int p3), (4, va_rf p4)], [.ref a0], h1)) rfl rfl rfl ?_
  refine xle_next (i := .iload_n 2) (x' := (11, [(0, .ref a0), (1, va_rf p1), (2, .int p2), (3, .int p3), (4, va_rf p4)], [.int p2, .ref a0], h1)) rfl rfl rfl ?_
  refine xle_put (v := .int p2) (f := (1, 1, .int, 2)) rfl rfl rfl ⟨by decide, rfl, rfl⟩ (fun h2 => ?_)
  refine xle_next (i := .aload_n 0) (x' := (15, [(0, .ref a0), (1, va_rf p1), (2, .int p2), (3, .int p3), (4, va_rf p4)], [.ref a0], h2)) rfl rfl rfl ?_
  refine xle_next (i := .iload_n 3) (x' := (16, [(0, .ref a0), (1, va_rf p1), (2, .int p2), (3, .int p3), (4, va_rf p4)], [.int p3, .ref a0], h2)) rfl rfl rfl ?_
  refine xle_put (v := .int p3) (f := (1, 2, .int, 2)) rfl rfl rfl ⟨by decide, rfl, rfl⟩ (fun h3 => ?_)
  refine xle_next (i := .aload_n 0) (x' := (20, [(0, .ref a0), (1, va_rf p1), (2, .int p2), (3, .int p3), (4, va_rf p4)], [.ref a0], h3)) rfl rfl rfl ?_
  refine xle_ald (k := 4) (r := p4) rfl rfl rfl ?_
  refine xle_put (v := va_rf p4) (f := (1, 3, .object "CapKernel$Capability", 1)) rfl rfl rfl ⟨by decide, xfit_obj _ _⟩ (fun h4 => ?_)
  exact xle_end (i := .return_) rfl rfl rfl
noncomputable def D_C_enterSlot_0 (z : xzs) (a0 : Nat) (p1 : Option Nat) (p2 : Int32) (h : xH) : Option xR :=
  (xwr h a0 1 4 (va_rf p1)).bind fun h1 =>
  (xwr h1 a0 1 5 (.int p2)).bind fun h2 =>
  p1.bind fun a3 =>
  (xisO h2 a3 5).bind fun _ => xclV (f_T_hold z [.ref a3, .int p2, .ref a0] h2) fun h4 =>
  some (.inl none, h4)
theorem E_C_enterSlot (z : xzs) (a0 : Nat) (p1 : Option Nat) (p2 : Int32) (h : xH) : xle (D_C_enterSlot_0 z a0 p1 p2 h) (xfun (K_C_enterSlot z) 3 [.ref a0, va_rf p1, .int p2] h) := by
  unfold D_C_enterSlot_0
  refine xle_entry (Nat.le_of_ble_eq_true rfl) (xal_c (xca_a _) (xal_c (xca_r _) (xal_c (xca_i _) (rfl)))) ?_
  show xle _ (xev (K_C_enterSlot z) (0, [(0, .ref a0), (1, va_rf p1), (2, .int p2)], [], h))
  refine xle_next (i := .aload_n 0) (x' := (1, [(0, .ref a0), (1, va_rf p1), (2, .int p2)], [.ref a0], h)) rfl rfl rfl ?_
  refine xle_aldn (k := 1) (r := p1) rfl rfl rfl ?_
  refine xle_put (v := va_rf p1) (f := (1, 4, .object "CapKernel$Thing", 1)) rfl rfl rfl ⟨by decide, xfit_obj _ _⟩ (fun h1 => ?_)
  refine xle_next (i := .aload_n 0) (x' := (6, [(0, .ref a0), (1, va_rf p1), (2, .int p2)], [.ref a0], h1)) rfl rfl rfl ?_
  refine xle_next (i := .iload_n 2) (x' := (7, [(0, .ref a0), (1, va_rf p1), (2, .int p2)], [.int p2, .ref a0], h1)) rfl rfl rfl ?_
  refine xle_put (v := .int p2) (f := (1, 5, .int, 1)) rfl rfl rfl ⟨by decide, rfl, rfl⟩ (fun h2 => ?_)
  refine xle_aldn (k := 1) (r := p1) rfl rfl rfl ?_
  refine xle_next (i := .iload_n 2) (x' := (12, [(0, .ref a0), (1, va_rf p1), (2, .int p2)], [.int p2, va_rf p1], h2)) rfl rfl rfl ?_
  refine xle_next (i := .aload_n 0) (x' := (13, [(0, .ref a0), (1, va_rf p1), (2, .int p2)], [.ref a0, .int p2, va_rf p1], h2)) rfl rfl rfl ?_
  refine xle_some (fun r_ => (13, [(0, .ref a0), (1, va_rf r_), (2, .int p2)], [.ref a0, .int p2, va_rf r_], h2)) (fun a3 => ?_)
  refine xle_isO (i := .invokevirtual 30) (bq := a3) (ci := 5) (fo := (f_T_hold z [.ref a3, .int p2, .ref a0] h2).bind (xback 13 [(0, .ref a0), (1, .ref a3), (2, .int p2)] [])) rfl rfl rfl (fun hs => ?_)
  refine xle_clV (t := []) rfl rfl hs (fun h4 => ?_)
  exact xle_end (i := .return_) rfl rfl rfl
noncomputable def B_C_leaveSlot_24 (z : xzs)  (h : xH) : Option xR := xev (K_C_leaveSlot z) (24, [], [], h)
noncomputable def D_C_leaveSlot_0 (z : xzs) (a0 : Nat) (h : xH) : Option xR :=
  (rdR h a0 1 4).bind fun r1 =>
  xcase r1 (
    B_C_leaveSlot_24 z h
  ) fun a2 =>
    (rdR h a0 1 4).bind fun r3 =>
    (rdI h a0 1 5).bind fun x4 =>
    r3.bind fun a5 =>
    (xisO h a5 5).bind fun _ => xclV (f_T_hold z [.ref a5, .int x4, .null] h) fun h6 =>
    (xwr h6 a0 1 4 (va_rf none)).bind fun h7 =>
    B_C_leaveSlot_24 z h7
theorem E_C_leaveSlot (z : xzs) (a0 : Nat) (h : xH) : xle (D_C_leaveSlot_0 z a0 h) (xfun (K_C_leaveSlot z) 1 [.ref a0] h) := by
  unfold D_C_leaveSlot_0
  refine xle_entry (Nat.le_of_ble_eq_true rfl) (xal_c (xca_a _) (rfl)) ?_
  show xle _ (xev (K_C_leaveSlot z) (0, [(0, .ref a0)], [], h))
  refine xle_next (i := .aload_n 0) (x' := (1, [(0, .ref a0)], [.ref a0], h)) rfl rfl rfl ?_
  refine xle_getR (f := (1, 4, .object "CapKernel$Thing", 1)) rfl rfl rfl (fun r1 => ?_)
  refine xle_case (fun r_ => (4, [(0, .ref a0)], [va_rf r_], h)) ?_ (fun a2 => ?_)
  · refine xle_next (i := .ifnull 20) (x' := (24, [(0, .ref a0)], [], h)) rfl rfl rfl ?_
    exact xle_jump rfl
  · refine xle_next (i := .ifnull 20) (x' := (7, [(0, .ref a0)], [], h)) rfl rfl rfl ?_
    refine xle_next (i := .aload_n 0) (x' := (8, [(0, .ref a0)], [.ref a0], h)) rfl rfl rfl ?_
    refine xle_getR (f := (1, 4, .object "CapKernel$Thing", 1)) rfl rfl rfl (fun r3 => ?_)
    refine xle_next (i := .aload_n 0) (x' := (12, [(0, .ref a0)], [.ref a0, va_rf r3], h)) rfl rfl rfl ?_
    refine xle_getI (f := (1, 5, .int, 1)) rfl rfl rfl (fun x4 => ?_)
    refine xle_next (i := .aconst_null) (x' := (16, [(0, .ref a0)], [.null, .int x4, va_rf r3], h)) rfl rfl rfl ?_
    refine xle_some (fun r_ => (16, [(0, .ref a0)], [.null, .int x4, va_rf r_], h)) (fun a5 => ?_)
    refine xle_isO (i := .invokevirtual 30) (bq := a5) (ci := 5) (fo := (f_T_hold z [.ref a5, .int x4, .null] h).bind (xback 16 [(0, .ref a0)] [])) rfl rfl rfl (fun hs => ?_)
    refine xle_clV (t := []) rfl rfl hs (fun h6 => ?_)
    refine xle_next (i := .aload_n 0) (x' := (20, [(0, .ref a0)], [.ref a0], h6)) rfl rfl rfl ?_
    refine xle_next (i := .aconst_null) (x' := (21, [(0, .ref a0)], [.null, .ref a0], h6)) rfl rfl rfl ?_
    refine xle_put (v := va_rf none) (f := (1, 4, .object "CapKernel$Thing", 1)) rfl rfl rfl ⟨by decide, xfit_obj _ _⟩ (fun h7 => ?_)
    exact xle_jump rfl
noncomputable def D_C_leaveSlot_24 (z : xzs)  (h : xH) : Option xR :=
  some (.inl none, h)
theorem E_C_leaveSlot_24 (z : xzs)  (h : xH) : xle (D_C_leaveSlot_24 z  h) (B_C_leaveSlot_24 z  h) := by
  unfold D_C_leaveSlot_24 B_C_leaveSlot_24
  exact xle_end (i := .return_) rfl rfl rfl
noncomputable def B_C_cameOf_5 (z : xzs) (rv1 : Option Nat) (rv2 : Option Nat) (h : xH) : Option xR := xev (K_C_cameOf z) (5, [(1, va_rf rv1), (2, va_rf rv2)], [], h)
noncomputable def D_C_cameOf_0 (z : xzs) (a0 : Nat) (p1 : Option Nat) (h : xH) : Option xR :=
  (rdR h a0 1 3).bind fun r1 =>
  B_C_cameOf_5 z p1 r1 h
theorem E_C_cameOf (z : xzs) (a0 : Nat) (p1 : Option Nat) (h : xH) : xle (D_C_cameOf_0 z a0 p1 h) (xfun (K_C_cameOf z) 3 [.ref a0, va_rf p1] h) := by
  unfold D_C_cameOf_0
  refine xle_entry (Nat.le_of_ble_eq_true rfl) (xal_c (xca_a _) (xal_c (xca_r _) (rfl))) ?_
  show xle _ (xev (K_C_cameOf z) (0, [(0, .ref a0), (1, va_rf p1)], [], h))
  refine xle_next (i := .aload_n 0) (x' := (1, [(0, .ref a0), (1, va_rf p1)], [.ref a0], h)) rfl rfl rfl ?_
  refine xle_getR (f := (1, 3, .object "CapKernel$Capability", 1)) rfl rfl rfl (fun r1 => ?_)
  refine xle_astn (k := 2) (r := r1) (L' := [(0, .ref a0), (1, va_rf p1), (2, va_rf r1)]) rfl rfl rfl ?_
  exact xle_jump rfl
noncomputable def D_C_cameOf_5 (z : xzs) (rv1 : Option Nat) (rv2 : Option Nat) (h : xH) : Option xR :=
  xcase rv2 (
    if (Int32.ofInt 0) = 0 ∨ (Int32.ofInt 0) = 1 then some (.inl (some (.int (Int32.ofInt 0))), h) else none
  ) fun a2 =>
    if (some a2) = rv1 then
      if (Int32.ofInt 1) = 0 ∨ (Int32.ofInt 1) = 1 then some (.inl (some (.int (Int32.ofInt 1))), h) else none
    else
      (rdR h a2 1 3).bind fun r3 =>
      B_C_cameOf_5 z rv1 r3 h
theorem E_C_cameOf_5 (z : xzs) (rv1 : Option Nat) (rv2 : Option Nat) (h : xH) : xle (D_C_cameOf_5 z rv1 rv2 h) (B_C_cameOf_5 z rv1 rv2 h) := by
  unfold D_C_cameOf_5 B_C_cameOf_5
  refine xle_aldn (k := 2) (r := rv2) rfl rfl rfl ?_
  refine xle_case (fun r_ => (6, [(1, va_rf rv1), (2, va_rf r_)], [va_rf r_], h)) ?_ (fun a2 => ?_)
  · refine xle_next (i := .ifnull 18) (x' := (24, [(1, va_rf rv1), (2, .null)], [], h)) rfl rfl rfl ?_
    refine xle_next (i := .iconst 0) (x' := (25, [(1, va_rf rv1), (2, .null)], [.int (Int32.ofInt 0)], h)) rfl rfl rfl ?_
    exact xle_zret rfl rfl rfl
  · refine xle_next (i := .ifnull 18) (x' := (9, [(1, va_rf rv1), (2, .ref a2)], [], h)) rfl rfl rfl ?_
    refine xle_next (i := .aload_n 2) (x' := (10, [(1, va_rf rv1), (2, .ref a2)], [.ref a2], h)) rfl rfl rfl ?_
    refine xle_aldn (k := 1) (r := rv1) rfl rfl rfl ?_
    refine xle_ane (x := (some a2)) (y := rv1) (q := 16) rfl rfl rfl ?_ ?_
    · refine xle_next (i := .iconst 1) (x' := (15, [(1, va_rf rv1), (2, .ref a2)], [.int (Int32.ofInt 1)], h)) rfl rfl rfl ?_
      exact xle_zret rfl rfl rfl
    · refine xle_next (i := .aload_n 2) (x' := (17, [(1, va_rf rv1), (2, .ref a2)], [.ref a2], h)) rfl rfl rfl ?_
      refine xle_getR (f := (1, 3, .object "CapKernel$Capability", 1)) rfl rfl rfl (fun r3 => ?_)
      refine xle_astn (k := 2) (r := r3) (L' := [(1, va_rf rv1), (2, va_rf r3)]) rfl rfl rfl ?_
      refine xle_next (i := .goto (-16)) (x' := (5, [(1, va_rf rv1), (2, va_rf r3)], [], h)) rfl rfl rfl ?_
      exact xle_jump rfl
