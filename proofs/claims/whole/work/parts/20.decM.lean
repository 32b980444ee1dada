noncomputable def D_M_put_0 (z : xzs) (a0 : Nat) (p1 : Int32) (p2 : Int32) (p3 : Int32) (p4 : Int32) (p5 : Int32) (h : xH) : Option xR :=
  (rdI h a0 6 13).bind fun x1 =>
  (xwr h a0 6 13 (.int (x1 + (Int32.ofInt 1)))).bind fun h2 =>
  (rdR h2 a0 6 8).bind fun r3 =>
  (rdI h2 a0 6 13).bind fun x4 =>
  r3.bind fun a5 =>
  (wrI h2 a5 x4 p2).bind fun h6 =>
  (rdR h6 a0 6 9).bind fun r7 =>
  (rdI h6 a0 6 13).bind fun x8 =>
  r7.bind fun a9 =>
  (wrI h6 a9 x8 p3).bind fun h10 =>
  (rdR h10 a0 6 10).bind fun r11 =>
  (rdI h10 a0 6 13).bind fun x12 =>
  r11.bind fun a13 =>
  (wrI h10 a13 x12 p4).bind fun h14 =>
  (rdR h14 a0 6 11).bind fun r15 =>
  (rdI h14 a0 6 13).bind fun x16 =>
  r15.bind fun a17 =>
  (wrI h14 a17 x16 p5).bind fun h18 =>
  (rdR h18 a0 6 12).bind fun r19 =>
  (rdI h18 a0 6 13).bind fun x20 =>
  r19.bind fun a21 =>
  (wrZ h18 a21 x20 (Int32.ofInt 1)).bind fun h22 =>
  (rdR h22 a0 6 14).bind fun r23 =>
  (rdI h22 a0 6 13).bind fun x24 =>
  r23.bind fun a25 =>
  (wrI h22 a25 p1 x24).bind fun h26 =>
  some (.inl (some (.int p3)), h26)
set_option maxRecDepth 20000 in
theorem E_M_put (z : xzs) (a0 : Nat) (p1 : Int32) (p2 : Int32) (p3 : Int32) (p4 : Int32) (p5 : Int32) (h : xH) : xle (D_M_put_0 z a0 p1 p2 p3 p4 p5 h) (xfun (K_M_put z) 6 [.ref a0, .int p1, .int p2, .int p3, .int p4, .int p5] h) := by
  unfold D_M_put_0
  refine xle_entry (Nat.le_of_ble_eq_true rfl) (xal_c (xca_a _) (xal_c (xca_i _) (xal_c (xca_i _) (xal_c (xca_i _) (xal_c (xca_i _) (xal_c (xca_i _) (rfl))))))) ?_
  show xle _ (xev (K_M_put z) (0, [(0, .ref a0), (1, .int p1), (2, .int p2), (3, .int p3), (4, .int p4), (5, .int p5)], [], h))
  refine xle_next (i := .aload_n 0) (x' := (1, [(0, .ref a0), (1, .int p1), (2, .int p2), (3, .int p3), (4, .int p4), (5, .int p5)], [.ref a0], h)) rfl rfl rfl ?_
  refine xle_next (i := .dup) (x' := (2, [(0, .ref a0), (1, .int p1), (2, .int p2), (3, .int p3), (4, .int p4), (5, .int p5)], [.ref a0, .ref a0], h)) rfl rfl rfl ?_
  refine xle_getI (f := (6, 13, .int, 1)) rfl rfl rfl (fun x1 => ?_)
  refine xle_next (i := .iconst 1) (x' := (6, [(0, .ref a0), (1, .int p1), (2, .int p2), (3, .int p3), (4, .int p4), (5, .int p5)], [.int (Int32.ofInt 1), .int x1, .ref a0], h)) rfl rfl rfl ?_
  refine xle_next (i := .iadd) (x' := (7, [(0, .ref a0), (1, .int p1), (2, .int p2), (3, .int p3), (4, .int p4), (5, .int p5)], [.int (x1 + (Int32.ofInt 1)), .ref a0], h)) rfl rfl rfl ?_
  refine xle_put (v := .int (x1 + (Int32.ofInt 1))) (f := (6, 13, .int, 1)) rfl rfl rfl ⟨by decide, rfl, rfl⟩ (fun h2 => ?_)
  refine xle_next (i := .aload_n 0) (x' := (11, [(0, .ref a0), (1, .int p1), (2, .int p2), (3, .int p3), (4, .int p4), (5, .int p5)], [.ref a0], h2)) rfl rfl rfl ?_
  refine xle_getR (f := (6, 8, .array .int, 0)) rfl rfl rfl (fun r3 => ?_)
  refine xle_next (i := .aload_n 0) (x' := (15, [(0, .ref a0), (1, .int p1), (2, .int p2), (3, .int p3), (4, .int p4), (5, .int p5)], [.ref a0, va_rf r3], h2)) rfl rfl rfl ?_
  refine xle_getI (f := (6, 13, .int, 1)) rfl rfl rfl (fun x4 => ?_)
  refine xle_next (i := .iload_n 2) (x' := (19, [(0, .ref a0), (1, .int p1), (2, .int p2), (3, .int p3), (4, .int p4), (5, .int p5)], [.int p2, .int x4, va_rf r3], h2)) rfl rfl rfl ?_
  refine xle_some (fun r_ => (19, [(0, .ref a0), (1, .int p1), (2, .int p2), (3, .int p3), (4, .int p4), (5, .int p5)], [.int p2, .int x4, va_rf r_], h2)) (fun a5 => ?_)
  refine xle_iast rfl rfl (fun h6 => ?_)
  refine xle_next (i := .aload_n 0) (x' := (21, [(0, .ref a0), (1, .int p1), (2, .int p2), (3, .int p3), (4, .int p4), (5, .int p5)], [.ref a0], h6)) rfl rfl rfl ?_
  refine xle_getR (f := (6, 9, .array .int, 0)) rfl rfl rfl (fun r7 => ?_)
  refine xle_next (i := .aload_n 0) (x' := (25, [(0, .ref a0), (1, .int p1), (2, .int p2), (3, .int p3), (4, .int p4), (5, .int p5)], [.ref a0, va_rf r7], h6)) rfl rfl rfl ?_
  refine xle_getI (f := (6, 13, .int, 1)) rfl rfl rfl (fun x8 => ?_)
  refine xle_next (i := .iload_n 3) (x' := (29, [(0, .ref a0), (1, .int p1), (2, .int p2), (3, .int p3), (4, .int p4), (5, .int p5)], [.int p3, .int x8, va_rf r7], h6)) rfl rfl rfl ?_
  refine xle_some (fun r_ => (29, [(0, .ref a0), (1, .int p1), (2, .int p2), (3, .int p3), (4, .int p4), (5, .int p5)], [.int p3, .int x8, va_rf r_], h6)) (fun a9 => ?_)
  refine xle_iast rfl rfl (fun h10 => ?_)
  refine xle_next (i := .aload_n 0) (x' := (31, [(0, .ref a0), (1, .int p1), (2, .int p2), (3, .int p3), (4, .int p4), (5, .int p5)], [.ref a0], h10)) rfl rfl rfl ?_
  refine xle_getR (f := (6, 10, .array .int, 0)) rfl rfl rfl (fun r11 => ?_)
  refine xle_next (i := .aload_n 0) (x' := (35, [(0, .ref a0), (1, .int p1), (2, .int p2), (3, .int p3), (4, .int p4), (5, .int p5)], [.ref a0, va_rf r11], h10)) rfl rfl rfl ?_
  refine xle_getI (f := (6, 13, .int, 1)) rfl rfl rfl (fun x12 => ?_)
  refine xle_next (i := .iload 4) (x' := (40, [(0, .ref a0), (1, .int p1), (2, .int p2), (3, .int p3), (4, .int p4), (5, .int p5)], [.int p4, .int x12, va_rf r11], h10)) rfl rfl rfl ?_
  refine xle_some (fun r_ => (40, [(0, .ref a0), (1, .int p1), (2, .int p2), (3, .int p3), (4, .int p4), (5, .int p5)], [.int p4, .int x12, va_rf r_], h10)) (fun a13 => ?_)
  refine xle_iast rfl rfl (fun h14 => ?_)
  refine xle_next (i := .aload_n 0) (x' := (42, [(0, .ref a0), (1, .int p1), (2, .int p2), (3, .int p3), (4, .int p4), (5, .int p5)], [.ref a0], h14)) rfl rfl rfl ?_
  refine xle_getR (f := (6, 11, .array .int, 0)) rfl rfl rfl (fun r15 => ?_)
  refine xle_next (i := .aload_n 0) (x' := (46, [(0, .ref a0), (1, .int p1), (2, .int p2), (3, .int p3), (4, .int p4), (5, .int p5)], [.ref a0, va_rf r15], h14)) rfl rfl rfl ?_
  refine xle_getI (f := (6, 13, .int, 1)) rfl rfl rfl (fun x16 => ?_)
  refine xle_next (i := .iload 5) (x' := (51, [(0, .ref a0), (1, .int p1), (2, .int p2), (3, .int p3), (4, .int p4), (5, .int p5)], [.int p5, .int x16, va_rf r15], h14)) rfl rfl rfl ?_
  refine xle_some (fun r_ => (51, [(0, .ref a0), (1, .int p1), (2, .int p2), (3, .int p3), (4, .int p4), (5, .int p5)], [.int p5, .int x16, va_rf r_], h14)) (fun a17 => ?_)
  refine xle_iast rfl rfl (fun h18 => ?_)
  refine xle_next (i := .aload_n 0) (x' := (53, [(0, .ref a0), (1, .int p1), (2, .int p2), (3, .int p3), (4, .int p4), (5, .int p5)], [.ref a0], h18)) rfl rfl rfl ?_
  refine xle_getR (f := (6, 12, .array .boolean, 0)) rfl rfl rfl (fun r19 => ?_)
  refine xle_next (i := .aload_n 0) (x' := (57, [(0, .ref a0), (1, .int p1), (2, .int p2), (3, .int p3), (4, .int p4), (5, .int p5)], [.ref a0, va_rf r19], h18)) rfl rfl rfl ?_
  refine xle_getI (f := (6, 13, .int, 1)) rfl rfl rfl (fun x20 => ?_)
  refine xle_next (i := .iconst 1) (x' := (61, [(0, .ref a0), (1, .int p1), (2, .int p2), (3, .int p3), (4, .int p4), (5, .int p5)], [.int (Int32.ofInt 1), .int x20, va_rf r19], h18)) rfl rfl rfl ?_
  refine xle_some (fun r_ => (61, [(0, .ref a0), (1, .int p1), (2, .int p2), (3, .int p3), (4, .int p4), (5, .int p5)], [.int (Int32.ofInt 1), .int x20, va_rf r_], h18)) (fun a21 => ?_)
  refine xle_bast rfl rfl (fun h22 => ?_)
  refine xle_next (i := .aload_n 0) (x' := (63, [(0, .ref a0), (1, .int p1), (2, .int p2), (3, .int p3), (4, .int p4), (5, .int p5)], [.ref a0], h22)) rfl rfl rfl ?_
  refine xle_getR (f := (6, 14, .array .int, 0)) rfl rfl rfl (fun r23 => ?_)
  refine xle_next (i := .iload_n 1) (x' := (67, [(0, .ref a0), (1, .int p1), (2, .int p2), (3, .int p3), (4, .int p4), (5, .int p5)], [.int p1, va_rf r23], h22)) rfl rfl rfl ?_
  refine xle_next (i := .aload_n 0) (x' := (68, [(0, .ref a0), (1, .int p1), (2, .int p2), (3, .int p3), (4, .int p4), (5, .int p5)], [.ref a0, .int p1, va_rf r23], h22)) rfl rfl rfl ?_
  refine xle_getI (f := (6, 13, .int, 1)) rfl rfl rfl (fun x24 => ?_)
  refine xle_some (fun r_ => (71, [(0, .ref a0), (1, .int p1), (2, .int p2), (3, .int p3), (4, .int p4), (5, .int p5)], [.int x24, .int p1, va_rf r_], h22)) (fun a25 => ?_)
  refine xle_iast rfl rfl (fun h26 => ?_)
  refine xle_next (i := .iload_n 3) (x' := (73, [(0, .ref a0), (1, .int p1), (2, .int p2), (3, .int p3), (4, .int p4), (5, .int p5)], [.int p3], h26)) rfl rfl rfl ?_
  exact xle_end (i := .ireturn) rfl rfl rfl
noncomputable def B_M_new_323 (z : xzs) (a0 : Nat) (xv1 : Int32) (h : xH) : Option xR := xev (K_M_new z) (323, [(0, .ref a0), (1, .int xv1)], [], h)
noncomputable def D_M_new_0 (z : xzs) (a0 : Nat) (h : xH) : Option xR :=
  (xnarI h 0 ((Int8.ofInt 50).toInt32)).bind fun qa1 => xlet qa1.1 qa1.2 fun a1 h2 =>
  (xwr h2 a0 6 1 (va_rf (some a1))).bind fun h3 =>
  (xnarI h3 0 ((Int8.ofInt 50).toInt32)).bind fun qa4 => xlet qa4.1 qa4.2 fun a4 h5 =>
  (xwr h5 a0 6 2 (va_rf (some a4))).bind fun h6 =>
  (xnarI h6 0 ((Int8.ofInt 50).toInt32)).bind fun qa7 => xlet qa7.1 qa7.2 fun a7 h8 =>
  (xwr h8 a0 6 3 (va_rf (some a7))).bind fun h9 =>
  (xnarI h9 0 ((Int8.ofInt 50).toInt32)).bind fun qa10 => xlet qa10.1 qa10.2 fun a10 h11 =>
  (xwr h11 a0 6 4 (va_rf (some a10))).bind fun h12 =>
  (xnarI h12 0 ((Int8.ofInt 50).toInt32)).bind fun qa13 => xlet qa13.1 qa13.2 fun a13 h14 =>
  (xwr h14 a0 6 5 (va_rf (some a13))).bind fun h15 =>
  (xnarI h15 1 ((Int8.ofInt 50).toInt32)).bind fun qa16 => xlet qa16.1 qa16.2 fun a16 h17 =>
  (xwr h17 a0 6 6 (va_rf (some a16))).bind fun h18 =>
  (xwr h18 a0 6 7 (.int ((Int8.ofInt 10).toInt32))).bind fun h19 =>
  (xnarI h19 0 ((Int16.ofInt 1200).toInt32)).bind fun qa20 => xlet qa20.1 qa20.2 fun a20 h21 =>
  (xwr h21 a0 6 8 (va_rf (some a20))).bind fun h22 =>
  (xnarI h22 0 ((Int16.ofInt 1200).toInt32)).bind fun qa23 => xlet qa23.1 qa23.2 fun a23 h24 =>
  (xwr h24 a0 6 9 (va_rf (some a23))).bind fun h25 =>
  (xnarI h25 0 ((Int16.ofInt 1200).toInt32)).bind fun qa26 => xlet qa26.1 qa26.2 fun a26 h27 =>
  (xwr h27 a0 6 10 (va_rf (some a26))).bind fun h28 =>
  (xnarI h28 0 ((Int16.ofInt 1200).toInt32)).bind fun qa29 => xlet qa29.1 qa29.2 fun a29 h30 =>
  (xwr h30 a0 6 11 (va_rf (some a29))).bind fun h31 =>
  (xnarI h31 1 ((Int16.ofInt 1200).toInt32)).bind fun qa32 => xlet qa32.1 qa32.2 fun a32 h33 =>
  (xwr h33 a0 6 12 (va_rf (some a32))).bind fun h34 =>
  (xnarI h34 0 ((Int16.ofInt 400).toInt32)).bind fun qa35 => xlet qa35.1 qa35.2 fun a35 h36 =>
  (xwr h36 a0 6 14 (va_rf (some a35))).bind fun h37 =>
  (xnarI h37 0 (Int32.ofInt 4)).bind fun qa38 => xlet qa38.1 qa38.2 fun a38 h39 =>
  (xwr h39 a0 6 15 (va_rf (some a38))).bind fun h40 =>
  (xnarI h40 0 (Int32.ofInt 4)).bind fun qa41 => xlet qa41.1 qa41.2 fun a41 h42 =>
  (xwr h42 a0 6 16 (va_rf (some a41))).bind fun h43 =>
  (xnarI h43 0 (Int32.ofInt 4)).bind fun qa44 => xlet qa44.1 qa44.2 fun a44 h45 =>
  (xwr h45 a0 6 17 (va_rf (some a44))).bind fun h46 =>
  (xnarI h46 0 (Int32.ofInt 4)).bind fun qa47 => xlet qa47.1 qa47.2 fun a47 h48 =>
  (xwr h48 a0 6 18 (va_rf (some a47))).bind fun h49 =>
  (xnarI h49 0 (Int32.ofInt 4)).bind fun qa50 => xlet qa50.1 qa50.2 fun a50 h51 =>
  (xwr h51 a0 6 19 (va_rf (some a50))).bind fun h52 =>
  (xnarI h52 0 (Int32.ofInt 4)).bind fun qa53 => xlet qa53.1 qa53.2 fun a53 h54 =>
  (xwr h54 a0 6 20 (va_rf (some a53))).bind fun h55 =>
  (xnarI h55 0 (Int32.ofInt 4)).bind fun qa56 => xlet qa56.1 qa56.2 fun a56 h57 =>
  (xwr h57 a0 6 21 (va_rf (some a56))).bind fun h58 =>
  (xnarI h58 0 (Int32.ofInt 4)).bind fun qa59 => xlet qa59.1 qa59.2 fun a59 h60 =>
  (xwr h60 a0 6 22 (va_rf (some a59))).bind fun h61 =>
  (xnarI h61 0 (Int32.ofInt 4)).bind fun qa62 => xlet qa62.1 qa62.2 fun a62 h63 =>
  (xwr h63 a0 6 23 (va_rf (some a62))).bind fun h64 =>
  (xnarI h64 0 (Int32.ofInt 4)).bind fun qa65 => xlet qa65.1 qa65.2 fun a65 h66 =>
  (xwr h66 a0 6 24 (va_rf (some a65))).bind fun h67 =>
  (xnarI h67 0 (Int32.ofInt 4)).bind fun qa68 => xlet qa68.1 qa68.2 fun a68 h69 =>
  (xwr h69 a0 6 25 (va_rf (some a68))).bind fun h70 =>
  (xnarI h70 0 (Int32.ofInt 4)).bind fun qa71 => xlet qa71.1 qa71.2 fun a71 h72 =>
  (xwr h72 a0 6 26 (va_rf (some a71))).bind fun h73 =>
  (xnarI h73 0 (Int32.ofInt 4)).bind fun qa74 => xlet qa74.1 qa74.2 fun a74 h75 =>
  (xwr h75 a0 6 27 (va_rf (some a74))).bind fun h76 =>
  (xnarI h76 0 (Int32.ofInt 4)).bind fun qa77 => xlet qa77.1 qa77.2 fun a77 h78 =>
  (xwr h78 a0 6 28 (va_rf (some a77))).bind fun h79 =>
  (xnarI h79 0 (Int32.ofInt 4)).bind fun qa80 => xlet qa80.1 qa80.2 fun a80 h81 =>
  (xwr h81 a0 6 29 (va_rf (some a80))).bind fun h82 =>
  (xnarI h82 0 (Int32.ofInt 4)).bind fun qa83 => xlet qa83.1 qa83.2 fun a83 h84 =>
  (xwr h84 a0 6 30 (va_rf (some a83))).bind fun h85 =>
  (xwr h85 a0 6 31 (.int (Int32.ofInt 3))).bind fun h86 =>
  (xnarI h86 0 ((Int16.ofInt 1200).toInt32)).bind fun qa87 => xlet qa87.1 qa87.2 fun a87 h88 =>
  (xwr h88 a0 6 32 (va_rf (some a87))).bind fun h89 =>
  (xnarI h89 0 ((Int8.ofInt 16).toInt32)).bind fun qa90 => xlet qa90.1 qa90.2 fun a90 h91 =>
  (xwr h91 a0 6 34 (va_rf (some a90))).bind fun h92 =>
  (xnarI h92 0 ((Int8.ofInt 50).toInt32)).bind fun qa93 => xlet qa93.1 qa93.2 fun a93 h94 =>
  (xwr h94 a0 6 35 (va_rf (some a93))).bind fun h95 =>
  (xnarI h95 0 (Int32.ofInt 4)).bind fun qa96 => xlet qa96.1 qa96.2 fun a96 h97 =>
  (xwr h97 a0 6 41 (va_rf (some a96))).bind fun h98 =>
  (rdR h98 a0 6 1).bind fun r99 =>
  r99.bind fun a100 =>
  (wrI h98 a100 ((Int8.ofInt 8).toInt32) (Int32.ofInt 1)).bind fun h101 =>
  (rdR h101 a0 6 1).bind fun r102 =>
  r102.bind fun a103 =>
  (wrI h101 a103 ((Int8.ofInt 9).toInt32) (Int32.ofInt 2)).bind fun h104 =>
  (rdR h104 a0 6 6).bind fun r105 =>
  r105.bind fun a106 =>
  (wrZ h104 a106 ((Int8.ofInt 8).toInt32) (Int32.ofInt 1)).bind fun h107 =>
  (rdR h107 a0 6 6).bind fun r108 =>
  r108.bind fun a109 =>
  (wrZ h107 a109 ((Int8.ofInt 9).toInt32) (Int32.ofInt 1)).bind fun h110 =>
  (rdR h110 a0 6 1).bind fun r111 =>
  r111.bind fun a112 =>
  (wrI h110 a112 (Int32.ofInt 0) (Int32.ofInt 1)).bind fun h113 =>
  (rdR h113 a0 6 1).bind fun r114 =>
  r114.bind fun a115 =>
  (wrI h113 a115 (Int32.ofInt 1) (Int32.ofInt 1)).bind fun h116 =>
  (rdR h116 a0 6 6).bind fun r117 =>
  r117.bind fun a118 =>
  (wrZ h116 a118 (Int32.ofInt 0) (Int32.ofInt 1)).bind fun h119 =>
  (rdR h119 a0 6 6).bind fun r120 =>
  r120.bind fun a121 =>
  (wrZ h119 a121 (Int32.ofInt 1) (Int32.ofInt 1)).bind fun h122 =>
  B_M_new_323 z a0 (Int32.ofInt 1) h122
set_option maxRecDepth 20000 in
theorem E_M_new (z : xzs) (a0 : Nat) (h : xH) : xle (D_M_new_0 z a0 h) (xfun (K_M_new z) 2 [.ref a0] h) := by
  unfold D_M_new_0
  refine xle_entry (Nat.le_of_ble_eq_true rfl) (xal_c (xca_a _) (rfl)) ?_
  show xle _ (xev (K_M_new z) (0, [(0, .ref a0)], [], h))
  refine xle_next (i := .aload_n 0) (x' := (1, [(0, .ref a0)], [.ref a0], h)) rfl rfl rfl ?_
  refine xle_next (i := .invokespecial 1) (x' := (4, [(0, .ref a0)], [], h)) rfl rfl rfl ?_
  refine xle_next (i := .aload_n 0) (x' := (5, [(0, .ref a0)], [.ref a0], h)) rfl rfl rfl ?_
  refine xle_next (i := .bipush 50) (x' := (7, [(0, .ref a0)], [.int ((Int8.ofInt 50).toInt32), .ref a0], h)) rfl rfl rfl ?_
  refine xle_newI rfl rfl (fun a1 h2 => ?_)
  refine xle_put (v := va_rf (some a1)) (f := (6, 1, .array .int, 2)) rfl rfl rfl ⟨by decide, xfit_arr _ _⟩ (fun h3 => ?_)
  refine xle_next (i := .aload_n 0) (x' := (13, [(0, .ref a0)], [.ref a0], h3)) rfl rfl rfl ?_
  refine xle_next (i := .bipush 50) (x' := (15, [(0, .ref a0)], [.int ((Int8.ofInt 50).toInt32), .ref a0], h3)) rfl rfl rfl ?_
  refine xle_newI rfl rfl (fun a4 h5 => ?_)
  refine xle_put (v := va_rf (some a4)) (f := (6, 2, .array .int, 2)) rfl rfl rfl ⟨by decide, xfit_arr _ _⟩ (fun h6 => ?_)
  refine xle_next (i := .aload_n 0) (x' := (21, [(0, .ref a0)], [.ref a0], h6)) rfl rfl rfl ?_
  refine xle_next (i := .bipush 50) (x' := (23, [(0, .ref a0)], [.int ((Int8.ofInt 50).toInt32), .ref a0], h6)) rfl rfl rfl ?_
  refine xle_newI rfl rfl (fun a7 h8 => ?_)
  refine xle_put (v := va_rf (some a7)) (f := (6, 3, .array .int, 2)) rfl rfl rfl ⟨by decide, xfit_arr _ _⟩ (fun h9 => ?_)
  refine xle_next (i := .aload_n 0) (x' := (29, [(0, .ref a0)], [.ref a0], h9)) rfl rfl rfl ?_
  refine xle_next (i := .bipush 50) (x' := (31, [(0, .ref a0)], [.int ((Int8.ofInt 50).toInt32), .ref a0], h9)) rfl rfl rfl ?_
  refine xle_newI rfl rfl (fun a10 h11 => ?_)
  refine xle_put (v := va_rf (some a10)) (f := (6, 4, .array .int, 2)) rfl rfl rfl ⟨by decide, xfit_arr _ _⟩ (fun h12 => ?_)
  refine xle_next (i := .aload_n 0) (x' := (37, [(0, .ref a0)], [.ref a0], h12)) rfl rfl rfl ?_
  refine xle_next (i := .bipush 50) (x' := (39, [(0, .ref a0)], [.int ((Int8.ofInt 50).toInt32), .ref a0], h12)) rfl rfl rfl ?_
  refine xle_newI rfl rfl (fun a13 h14 => ?_)
  refine xle_put (v := va_rf (some a13)) (f := (6, 5, .array .int, 2)) rfl rfl rfl ⟨by decide, xfit_arr _ _⟩ (fun h15 => ?_)
  refine xle_next (i := .aload_n 0) (x' := (45, [(0, .ref a0)], [.ref a0], h15)) rfl rfl rfl ?_
  refine xle_next (i := .bipush 50) (x' := (47, [(0, .ref a0)], [.int ((Int8.ofInt 50).toInt32), .ref a0], h15)) rfl rfl rfl ?_
  refine xle_newZ rfl rfl (fun a16 h17 => ?_)
  refine xle_put (v := va_rf (some a16)) (f := (6, 6, .array .boolean, 2)) rfl rfl rfl ⟨by decide, xfit_arr _ _⟩ (fun h18 => ?_)
  refine xle_next (i := .aload_n 0) (x' := (53, [(0, .ref a0)], [.ref a0], h18)) rfl rfl rfl ?_
  refine xle_next (i := .bipush 10) (x' := (55, [(0, .ref a0)], [.int ((Int8.ofInt 10).toInt32), .ref a0], h18)) rfl rfl rfl ?_
  refine xle_put (v := .int ((Int8.ofInt 10).toInt32)) (f := (6, 7, .int, 1)) rfl rfl rfl ⟨by decide, rfl, rfl⟩ (fun h19 => ?_)
  refine xle_next (i := .aload_n 0) (x' := (59, [(0, .ref a0)], [.ref a0], h19)) rfl rfl rfl ?_
  refine xle_next (i := .sipush 1200) (x' := (62, [(0, .ref a0)], [.int ((Int16.ofInt 1200).toInt32), .ref a0], h19)) rfl rfl rfl ?_
  refine xle_newI rfl rfl (fun a20 h21 => ?_)
  refine xle_put (v := va_rf (some a20)) (f := (6, 8, .array .int, 2)) rfl rfl rfl ⟨by decide, xfit_arr _ _⟩ (fun h22 => ?_)
  refine xle_next (i := .aload_n 0) (x' := (68, [(0, .ref a0)], [.ref a0], h22)) rfl rfl rfl ?_
  refine xle_next (i := .sipush 1200) (x' := (71, [(0, .ref a0)], [.int ((Int16.ofInt 1200).toInt32), .ref a0], h22)) rfl rfl rfl ?_
  refine xle_newI rfl rfl (fun a23 h24 => ?_)
  refine xle_put (v := va_rf (some a23)) (f := (6, 9, .array .int, 2)) rfl rfl rfl ⟨by decide, xfit_arr _ _⟩ (fun h25 => ?_)
  refine xle_next (i := .aload_n 0) (x' := (77, [(0, .ref a0)], [.ref a0], h25)) rfl rfl rfl ?_
  refine xle_next (i := .sipush 1200) (x' := (80, [(0, .ref a0)], [.int ((Int16.ofInt 1200).toInt32), .ref a0], h25)) rfl rfl rfl ?_
  refine xle_newI rfl rfl (fun a26 h27 => ?_)
  refine xle_put (v := va_rf (some a26)) (f := (6, 10, .array .int, 2)) rfl rfl rfl ⟨by decide, xfit_arr _ _⟩ (fun h28 => ?_)
  refine xle_next (i := .aload_n 0) (x' := (86, [(0, .ref a0)], [.ref a0], h28)) rfl rfl rfl ?_
  refine xle_next (i := .sipush 1200) (x' := (89, [(0, .ref a0)], [.int ((Int16.ofInt 1200).toInt32), .ref a0], h28)) rfl rfl rfl ?_
  refine xle_newI rfl rfl (fun a29 h30 => ?_)
  refine xle_put (v := va_rf (some a29)) (f := (6, 11, .array .int, 2)) rfl rfl rfl ⟨by decide, xfit_arr _ _⟩ (fun h31 => ?_)
  refine xle_next (i := .aload_n 0) (x' := (95, [(0, .ref a0)], [.ref a0], h31)) rfl rfl rfl ?_
  refine xle_next (i := .sipush 1200) (x' := (98, [(0, .ref a0)], [.int ((Int16.ofInt 1200).toInt32), .ref a0], h31)) rfl rfl rfl ?_
  refine xle_newZ rfl rfl (fun a32 h33 => ?_)
  refine xle_put (v := va_rf (some a32)) (f := (6, 12, .array .boolean, 2)) rfl rfl rfl ⟨by decide, xfit_arr _ _⟩ (fun h34 => ?_)
  refine xle_next (i := .aload_n 0) (x' := (104, [(0, .ref a0)], [.ref a0], h34)) rfl rfl rfl ?_
  refine xle_next (i := .sipush 400) (x' := (107, [(0, .ref a0)], [.int ((Int16.ofInt 400).toInt32), .ref a0], h34)) rfl rfl rfl ?_
  refine xle_newI rfl rfl (fun a35 h36 => ?_)
  refine xle_put (v := va_rf (some a35)) (f := (6, 14, .array .int, 2)) rfl rfl rfl ⟨by decide, xfit_arr _ _⟩ (fun h37 => ?_)
  refine xle_next (i := .aload_n 0) (x' := (113, [(0, .ref a0)], [.ref a0], h37)) rfl rfl rfl ?_
  refine xle_next (i := .iconst 4) (x' := (114, [(0, .ref a0)], [.int (Int32.ofInt 4), .ref a0], h37)) rfl rfl rfl ?_
  refine xle_newI rfl rfl (fun a38 h39 => ?_)
  refine xle_put (v := va_rf (some a38)) (f := (6, 15, .array .int, 2)) rfl rfl rfl ⟨by decide, xfit_arr _ _⟩ (fun h40 => ?_)
  refine xle_next (i := .aload_n 0) (x' := (120, [(0, .ref a0)], [.ref a0], h40)) rfl rfl rfl ?_
  refine xle_next (i := .iconst 4) (x' := (121, [(0, .ref a0)], [.int (Int32.ofInt 4), .ref a0], h40)) rfl rfl rfl ?_
  refine xle_newI rfl rfl (fun a41 h42 => ?_)
  refine xle_put (v := va_rf (some a41)) (f := (6, 16, .array .int, 2)) rfl rfl rfl ⟨by decide, xfit_arr _ _⟩ (fun h43 => ?_)
  refine xle_next (i := .aload_n 0) (x' := (127, [(0, .ref a0)], [.ref a0], h43)) rfl rfl rfl ?_
  refine xle_next (i := .iconst 4) (x' := (128, [(0, .ref a0)], [.int (Int32.ofInt 4), .ref a0], h43)) rfl rfl rfl ?_
  refine xle_newI rfl rfl (fun a44 h45 => ?_)
  refine xle_put (v := va_rf (some a44)) (f := (6, 17, .array .int, 2)) rfl rfl rfl ⟨by decide, xfit_arr _ _⟩ (fun h46 => ?_)
  refine xle_next (i := .aload_n 0) (x' := (134, [(0, .ref a0)], [.ref a0], h46)) rfl rfl rfl ?_
  refine xle_next (i := .iconst 4) (x' := (135, [(0, .ref a0)], [.int (Int32.ofInt 4), .ref a0], h46)) rfl rfl rfl ?_
  refine xle_newI rfl rfl (fun a47 h48 => ?_)
  refine xle_put (v := va_rf (some a47)) (f := (6, 18, .array .int, 2)) rfl rfl rfl ⟨by decide, xfit_arr _ _⟩ (fun h49 => ?_)
  refine xle_next (i := .aload_n 0) (x' := (141, [(0, .ref a0)], [.ref a0], h49)) rfl rfl rfl ?_
  refine xle_next (i := .iconst 4) (x' := (142, [(0, .ref a0)], [.int (Int32.ofInt 4), .ref a0], h49)) rfl rfl rfl ?_
  refine xle_newI rfl rfl (fun a50 h51 => ?_)
  refine xle_put (v := va_rf (some a50)) (f := (6, 19, .array .int, 2)) rfl rfl rfl ⟨by decide, xfit_arr _ _⟩ (fun h52 => ?_)
  refine xle_next (i := .aload_n 0) (x' := (148, [(0, .ref a0)], [.ref a0], h52)) rfl rfl rfl ?_
  refine xle_next (i := .iconst 4) (x' := (149, [(0, .ref a0)], [.int (Int32.ofInt 4), .ref a0], h52)) rfl rfl rfl ?_
  refine xle_newI rfl rfl (fun a53 h54 => ?_)
  refine xle_put (v := va_rf (some a53)) (f := (6, 20, .array .int, 2)) rfl rfl rfl ⟨by decide, xfit_arr _ _⟩ (fun h55 => ?_)
  refine xle_next (i := .aload_n 0) (x' := (155, [(0, .ref a0)], [.ref a0], h55)) rfl rfl rfl ?_
  refine xle_next (i := .iconst 4) (x' := (156, [(0, .ref a0)], [.int (Int32.ofInt 4), .ref a0], h55)) rfl rfl rfl ?_
  refine xle_newI rfl rfl (fun a56 h57 => ?_)
  refine xle_put (v := va_rf (some a56)) (f := (6, 21, .array .int, 2)) rfl rfl rfl ⟨by decide, xfit_arr _ _⟩ (fun h58 => ?_)
  refine xle_next (i := .aload_n 0) (x' := (162, [(0, .ref a0)], [.ref a0], h58)) rfl rfl rfl ?_
  refine xle_next (i := .iconst 4) (x' := (163, [(0, .ref a0)], [.int (Int32.ofInt 4), .ref a0], h58)) rfl rfl rfl ?_
  refine xle_newI rfl rfl (fun a59 h60 => ?_)
  refine xle_put (v := va_rf (some a59)) (f := (6, 22, .array .int, 2)) rfl rfl rfl ⟨by decide, xfit_arr _ _⟩ (fun h61 => ?_)
  refine xle_next (i := .aload_n 0) (x' := (169, [(0, .ref a0)], [.ref a0], h61)) rfl rfl rfl ?_
  refine xle_next (i := .iconst 4) (x' := (170, [(0, .ref a0)], [.int (Int32.ofInt 4), .ref a0], h61)) rfl rfl rfl ?_
  refine xle_newI rfl rfl (fun a62 h63 => ?_)
  refine xle_put (v := va_rf (some a62)) (f := (6, 23, .array .int, 2)) rfl rfl rfl ⟨by decide, xfit_arr _ _⟩ (fun h64 => ?_)
  refine xle_next (i := .aload_n 0) (x' := (176, [(0, .ref a0)], [.ref a0], h64)) rfl rfl rfl ?_
  refine xle_next (i := .iconst 4) (x' := (177, [(0, .ref a0)], [.int (Int32.ofInt 4), .ref a0], h64)) rfl rfl rfl ?_
  refine xle_newI rfl rfl (fun a65 h66 => ?_)
  refine xle_put (v := va_rf (some a65)) (f := (6, 24, .array .int, 2)) rfl rfl rfl ⟨by decide, xfit_arr _ _⟩ (fun h67 => ?_)
  refine xle_next (i := .aload_n 0) (x' := (183, [(0, .ref a0)], [.ref a0], h67)) rfl rfl rfl ?_
  refine xle_next (i := .iconst 4) (x' := (184, [(0, .ref a0)], [.int (Int32.ofInt 4), .ref a0], h67)) rfl rfl rfl ?_
  refine xle_newI rfl rfl (fun a68 h69 => ?_)
  refine xle_put (v := va_rf (some a68)) (f := (6, 25, .array .int, 2)) rfl rfl rfl ⟨by decide, xfit_arr _ _⟩ (fun h70 => ?_)
  refine xle_next (i := .aload_n 0) (x' := (190, [(0, .ref a0)], [.ref a0], h70)) rfl rfl rfl ?_
  refine xle_next (i := .iconst 4) (x' := (191, [(0, .ref a0)], [.int (Int32.ofInt 4), .ref a0], h70)) rfl rfl rfl ?_
  refine xle_newI rfl rfl (fun a71 h72 => ?_)
  refine xle_put (v := va_rf (some a71)) (f := (6, 26, .array .int, 2)) rfl rfl rfl ⟨by decide, xfit_arr _ _⟩ (fun h73 => ?_)
  refine xle_next (i := .aload_n 0) (x' := (197, [(0, .ref a0)], [.ref a0], h73)) rfl rfl rfl ?_
  refine xle_next (i := .iconst 4) (x' := (198, [(0, .ref a0)], [.int (Int32.ofInt 4), .ref a0], h73)) rfl rfl rfl ?_
  refine xle_newI rfl rfl (fun a74 h75 => ?_)
  refine xle_put (v := va_rf (some a74)) (f := (6, 27, .array .int, 2)) rfl rfl rfl ⟨by decide, xfit_arr _ _⟩ (fun h76 => ?_)
  refine xle_next (i := .aload_n 0) (x' := (204, [(0, .ref a0)], [.ref a0], h76)) rfl rfl rfl ?_
  refine xle_next (i := .iconst 4) (x' := (205, [(0, .ref a0)], [.int (Int32.ofInt 4), .ref a0], h76)) rfl rfl rfl ?_
  refine xle_newI rfl rfl (fun a77 h78 => ?_)
  refine xle_put (v := va_rf (some a77)) (f := (6, 28, .array .int, 2)) rfl rfl rfl ⟨by decide, xfit_arr _ _⟩ (fun h79 => ?_)
  refine xle_next (i := .aload_n 0) (x' := (211, [(0, .ref a0)], [.ref a0], h79)) rfl rfl rfl ?_
  refine xle_next (i := .iconst 4) (x' := (212, [(0, .ref a0)], [.int (Int32.ofInt 4), .ref a0], h79)) rfl rfl rfl ?_
  refine xle_newI rfl rfl (fun a80 h81 => ?_)
  refine xle_put (v := va_rf (some a80)) (f := (6, 29, .array .int, 2)) rfl rfl rfl ⟨by decide, xfit_arr _ _⟩ (fun h82 => ?_)
  refine xle_next (i := .aload_n 0) (x' := (218, [(0, .ref a0)], [.ref a0], h82)) rfl rfl rfl ?_
  refine xle_next (i := .iconst 4) (x' := (219, [(0, .ref a0)], [.int (Int32.ofInt 4), .ref a0], h82)) rfl rfl rfl ?_
  refine xle_newI rfl rfl (fun a83 h84 => ?_)
  refine xle_put (v := va_rf (some a83)) (f := (6, 30, .array .int, 2)) rfl rfl rfl ⟨by decide, xfit_arr _ _⟩ (fun h85 => ?_)
  refine xle_next (i := .aload_n 0) (x' := (225, [(0, .ref a0)], [.ref a0], h85)) rfl rfl rfl ?_
  refine xle_next (i := .iconst 3) (x' := (226, [(0, .ref a0)], [.int (Int32.ofInt 3), .ref a0], h85)) rfl rfl rfl ?_
  refine xle_put (v := .int (Int32.ofInt 3)) (f := (6, 31, .int, 1)) rfl rfl rfl ⟨by decide, rfl, rfl⟩ (fun h86 => ?_)
  refine xle_next (i := .aload_n 0) (x' := (230, [(0, .ref a0)], [.ref a0], h86)) rfl rfl rfl ?_
  refine xle_next (i := .sipush 1200) (x' := (233, [(0, .ref a0)], [.int ((Int16.ofInt 1200).toInt32), .ref a0], h86)) rfl rfl rfl ?_
  refine xle_newI rfl rfl (fun a87 h88 => ?_)
  refine xle_put (v := va_rf (some a87)) (f := (6, 32, .array .int, 2)) rfl rfl rfl ⟨by decide, xfit_arr _ _⟩ (fun h89 => ?_)
  refine xle_next (i := .aload_n 0) (x' := (239, [(0, .ref a0)], [.ref a0], h89)) rfl rfl rfl ?_
  refine xle_next (i := .bipush 16) (x' := (241, [(0, .ref a0)], [.int ((Int8.ofInt 16).toInt32), .ref a0], h89)) rfl rfl rfl ?_
  refine xle_newI rfl rfl (fun a90 h91 => ?_)
  refine xle_put (v := va_rf (some a90)) (f := (6, 34, .array .int, 2)) rfl rfl rfl ⟨by decide, xfit_arr _ _⟩ (fun h92 => ?_)
  refine xle_next (i := .aload_n 0) (x' := (247, [(0, .ref a0)], [.ref a0], h92)) rfl rfl rfl ?_
  refine xle_next (i := .bipush 50) (x' := (249, [(0, .ref a0)], [.int ((Int8.ofInt 50).toInt32), .ref a0], h92)) rfl rfl rfl ?_
  refine xle_newI rfl rfl (fun a93 h94 => ?_)
  refine xle_put (v := va_rf (some a93)) (f := (6, 35, .array .int, 2)) rfl rfl rfl ⟨by decide, xfit_arr _ _⟩ (fun h95 => ?_)
  refine xle_next (i := .aload_n 0) (x' := (255, [(0, .ref a0)], [.ref a0], h95)) rfl rfl rfl ?_
  refine xle_next (i := .iconst 4) (x' := (256, [(0, .ref a0)], [.int (Int32.ofInt 4), .ref a0], h95)) rfl rfl rfl ?_
  refine xle_newI rfl rfl (fun a96 h97 => ?_)
  refine xle_put (v := va_rf (some a96)) (f := (6, 41, .array .int, 2)) rfl rfl rfl ⟨by decide, xfit_arr _ _⟩ (fun h98 => ?_)
  refine xle_next (i := .aload_n 0) (x' := (262, [(0, .ref a0)], [.ref a0], h98)) rfl rfl rfl ?_
  refine xle_getR (f := (6, 1, .array .int, 2)) rfl rfl rfl (fun r99 => ?_)
  refine xle_next (i := .bipush 8) (x' := (267, [(0, .ref a0)], [.int ((Int8.ofInt 8).toInt32), va_rf r99], h98)) rfl rfl rfl ?_
  refine xle_next (i := .iconst 1) (x' := (268, [(0, .ref a0)], [.int (Int32.ofInt 1), .int ((Int8.ofInt 8).toInt32), va_rf r99], h98)) rfl rfl rfl ?_
  refine xle_some (fun r_ => (268, [(0, .ref a0)], [.int (Int32.ofInt 1), .int ((Int8.ofInt 8).toInt32), va_rf r_], h98)) (fun a100 => ?_)
  refine xle_iast rfl rfl (fun h101 => ?_)
  refine xle_next (i := .aload_n 0) (x' := (270, [(0, .ref a0)], [.ref a0], h101)) rfl rfl rfl ?_
  refine xle_getR (f := (6, 1, .array .int, 2)) rfl rfl rfl (fun r102 => ?_)
  refine xle_next (i := .bipush 9) (x' := (275, [(0, .ref a0)], [.int ((Int8.ofInt 9).toInt32), va_rf r102], h101)) rfl rfl rfl ?_
  refine xle_next (i := .iconst 2) (x' := (276, [(0, .ref a0)], [.int (Int32.ofInt 2), .int ((Int8.ofInt 9).toInt32), va_rf r102], h101)) rfl rfl rfl ?_
  refine xle_some (fun r_ => (276, [(0, .ref a0)], [.int (Int32.ofInt 2), .int ((Int8.ofInt 9).toInt32), va_rf r_], h101)) (fun a103 => ?_)
  refine xle_iast rfl rfl (fun h104 => ?_)
  refine xle_next (i := .aload_n 0) (x' := (278, [(0, .ref a0)], [.ref a0], h104)) rfl rfl rfl ?_
  refine xle_getR (f := (6, 6, .array .boolean, 2)) rfl rfl rfl (fun r105 => ?_)
  refine xle_next (i := .bipush 8) (x' := (283, [(0, .ref a0)], [.int ((Int8.ofInt 8).toInt32), va_rf r105], h104)) rfl rfl rfl ?_
  refine xle_next (i := .iconst 1) (x' := (284, [(0, .ref a0)], [.int (Int32.ofInt 1), .int ((Int8.ofInt 8).toInt32), va_rf r105], h104)) rfl rfl rfl ?_
  refine xle_some (fun r_ => (284, [(0, .ref a0)], [.int (Int32.ofInt 1), .int ((Int8.ofInt 8).toInt32), va_rf r_], h104)) (fun a106 => ?_)
  refine xle_bast rfl rfl (fun h107 => ?_)
  refine xle_next (i := .aload_n 0) (x' := (286, [(0, .ref a0)], [.ref a0], h107)) rfl rfl rfl ?_
  refine xle_getR (f := (6, 6, .array .boolean, 2)) rfl rfl rfl (fun r108 => ?_)
  refine xle_next (i := .bipush 9) (x' := (291, [(0, .ref a0)], [.int ((Int8.ofInt 9).toInt32), va_rf r108], h107)) rfl rfl rfl ?_
  refine xle_next (i := .iconst 1) (x' := (292, [(0, .ref a0)], [.int (Int32.ofInt 1), .int ((Int8.ofInt 9).toInt32), va_rf r108], h107)) rfl rfl rfl ?_
  refine xle_some (fun r_ => (292, [(0, .ref a0)], [.int (Int32.ofInt 1), .int ((Int8.ofInt 9).toInt32), va_rf r_], h107)) (fun a109 => ?_)
  refine xle_bast rfl rfl (fun h110 => ?_)
  refine xle_next (i := .aload_n 0) (x' := (294, [(0, .ref a0)], [.ref a0], h110)) rfl rfl rfl ?_
  refine xle_getR (f := (6, 1, .array .int, 2)) rfl rfl rfl (fun r111 => ?_)
  refine xle_next (i := .iconst 0) (x' := (298, [(0, .ref a0)], [.int (Int32.ofInt 0), va_rf r111], h110)) rfl rfl rfl ?_
  refine xle_next (i := .iconst 1) (x' := (299, [(0, .ref a0)], [.int (Int32.ofInt 1), .int (Int32.ofInt 0), va_rf r111], h110)) rfl rfl rfl ?_
  refine xle_some (fun r_ => (299, [(0, .ref a0)], [.int (Int32.ofInt 1), .int (Int32.ofInt 0), va_rf r_], h110)) (fun a112 => ?_)
  refine xle_iast rfl rfl (fun h113 => ?_)
  refine xle_next (i := .aload_n 0) (x' := (301, [(0, .ref a0)], [.ref a0], h113)) rfl rfl rfl ?_
  refine xle_getR (f := (6, 1, .array .int, 2)) rfl rfl rfl (fun r114 => ?_)
  refine xle_next (i := .iconst 1) (x' := (305, [(0, .ref a0)], [.int (Int32.ofInt 1), va_rf r114], h113)) rfl rfl rfl ?_
  refine xle_next (i := .iconst 1) (x' := (306, [(0, .ref a0)], [.int (Int32.ofInt 1), .int (Int32.ofInt 1), va_rf r114], h113)) rfl rfl rfl ?_
  refine xle_some (fun r_ => (306, [(0, .ref a0)], [.int (Int32.ofInt 1), .int (Int32.ofInt 1), va_rf r_], h113)) (fun a115 => ?_)
  refine xle_iast rfl rfl (fun h116 => ?_)
  refine xle_next (i := .aload_n 0) (x' := (308, [(0, .ref a0)], [.ref a0], h116)) rfl rfl rfl ?_
  refine xle_getR (f := (6, 6, .array .boolean, 2)) rfl rfl rfl (fun r117 => ?_)
  refine xle_next (i := .iconst 0) (x' := (312, [(0, .ref a0)], [.int (Int32.ofInt 0), va_rf r117], h116)) rfl rfl rfl ?_
  refine xle_next (i := .iconst 1) (x' := (313, [(0, .ref a0)], [.int (Int32.ofInt 1), .int (Int32.ofInt 0), va_rf r117], h116)) rfl rfl rfl ?_
  refine xle_some (fun r_ => (313, [(0, .ref a0)], [.int (Int32.ofInt 1), .int (Int32.ofInt 0), va_rf r_], h116)) (fun a118 => ?_)
  refine xle_bast rfl rfl (fun h119 => ?_)
  refine xle_next (i := .aload_n 0) (x' := (315, [(0, .ref a0)], [.ref a0], h119)) rfl rfl rfl ?_
  refine xle_getR (f := (6, 6, .array .boolean, 2)) rfl rfl rfl (fun r120 => ?_)
  refine xle_next (i := .iconst 1) (x' := (319, [(0, .ref a0)], [.int (Int32.ofInt 1), va_rf r120], h119)) rfl rfl rfl ?_
  refine xle_next (i := .iconst 1) (x' := (320, [(0, .ref a0)], [.int (Int32.ofInt 1), .int (Int32.ofInt 1), va_rf r120], h119)) rfl rfl rfl ?_
  refine xle_some (fun r_ => (320, [(0, .ref a0)], [.int (Int32.ofInt 1), .int (Int32.ofInt 1), va_rf r_], h119)) (fun a121 => ?_)
  refine xle_bast rfl rfl (fun h122 => ?_)
  refine xle_next (i := .iconst 1) (x' := (322, [(0, .ref a0)], [.int (Int32.ofInt 1)], h122)) rfl rfl rfl ?_
  refine xle_next (i := .istore_n 1) (x' := (323, [(0, .ref a0), (1, .int (Int32.ofInt 1))], [], h122)) rfl rfl rfl ?_
  exact xle_jump rfl
noncomputable def D_M_new_323 (z : xzs) (a0 : Nat) (xv1 : Int32) (h : xH) : Option xR :=
  if (Int32.ofInt 4) ≤ xv1 then
    some (.inl none, h)
  else
    (rdR h a0 6 1).bind fun r123 =>
    r123.bind fun a124 =>
    (wrI h a124 ((Int32.ofInt 1) + xv1) (Int32.ofInt 3)).bind fun h125 =>
    (rdR h125 a0 6 6).bind fun r126 =>
    r126.bind fun a127 =>
    (wrZ h125 a127 ((Int32.ofInt 1) + xv1) (Int32.ofInt 1)).bind fun h128 =>
    (rdR h128 a0 6 2).bind fun r129 =>
    r129.bind fun a130 =>
    (wrI h128 a130 ((Int32.ofInt 4) + xv1) ((Int8.ofInt 16).toInt32)).bind fun h131 =>
    (rdR h131 a0 6 6).bind fun r132 =>
    r132.bind fun a133 =>
    (wrZ h131 a133 ((Int32.ofInt 4) + xv1) (Int32.ofInt 1)).bind fun h134 =>
    (rdR h134 a0 6 20).bind fun r135 =>
    r135.bind fun a136 =>
    (wrI h134 a136 xv1 (Int32.ofInt 1)).bind fun h137 =>
    (rdR h137 a0 6 21).bind fun r138 =>
    r138.bind fun a139 =>
    (wrI h137 a139 xv1 xv1).bind fun h140 =>
    (xisO h140 a0 6).bind fun _ => xclI (f_M_put z [.ref a0, .int (((Int8.ofInt 8).toInt32) * ((Int32.ofInt 1) + xv1)), .int (Int32.ofInt 0), .int (Int32.ofInt 2), .int xv1, .int (Int32.ofInt 0)] h140) fun x142 h141 =>
    (xisO h141 a0 6).bind fun _ => xclI (f_M_put z [.ref a0, .int ((((Int8.ofInt 8).toInt32) * ((Int32.ofInt 1) + xv1)) + (Int32.ofInt 1)), .int ((Int32.ofInt 4) + xv1), .int ((Int8.ofInt 7).toInt32), .int (Int32.ofInt 0), .int (Int32.ofInt 0)] h141) fun x144 h143 =>
    (xisO h143 a0 6).bind fun _ => xclI (f_M_put z [.ref a0, .int ((((Int8.ofInt 8).toInt32) * ((Int32.ofInt 1) + xv1)) + (Int32.ofInt 2)), .int ((Int8.ofInt 8).toInt32), .int ((Int8.ofInt 7).toInt32), .int (Int32.ofInt 0), .int (Int32.ofInt 0)] h143) fun x146 h145 =>
    (xisO h145 a0 6).bind fun _ => xclI (f_M_put z [.ref a0, .int ((((Int8.ofInt 8).toInt32) * ((Int32.ofInt 1) + xv1)) + (Int32.ofInt 3)), .int ((Int8.ofInt 9).toInt32), .int ((Int8.ofInt 7).toInt32), .int (Int32.ofInt 0), .int (Int32.ofInt 0)] h145) fun x148 h147 =>
    B_M_new_323 z a0 (xv1 + Int32.ofInt 1) h147
set_option maxRecDepth 20000 in
theorem E_M_new_323 (z : xzs) (a0 : Nat) (xv1 : Int32) (h : xH) : xle (D_M_new_323 z a0 xv1 h) (B_M_new_323 z a0 xv1 h) := by
  unfold D_M_new_323 B_M_new_323
  refine xle_next (i := .iload_n 1) (x' := (324, [(0, .ref a0), (1, .int xv1)], [.int xv1], h)) rfl rfl rfl ?_
  refine xle_next (i := .iconst 4) (x' := (325, [(0, .ref a0), (1, .int xv1)], [.int (Int32.ofInt 4), .int xv1], h)) rfl rfl rfl ?_
  refine xle_icmp (cd := .ge) (q := 458) rfl rfl rfl xc_ge (fun _ => ?_) (fun _ => ?_)
  · exact xle_end (i := .return_) rfl rfl rfl
  · refine xle_next (i := .aload_n 0) (x' := (329, [(0, .ref a0), (1, .int xv1)], [.ref a0], h)) rfl rfl rfl ?_
    refine xle_getR (f := (6, 1, .array .int, 2)) rfl rfl rfl (fun r123 => ?_)
    refine xle_next (i := .iconst 1) (x' := (333, [(0, .ref a0), (1, .int xv1)], [.int (Int32.ofInt 1), va_rf r123], h)) rfl rfl rfl ?_
    refine xle_next (i := .iload_n 1) (x' := (334, [(0, .ref a0), (1, .int xv1)], [.int xv1, .int (Int32.ofInt 1), va_rf r123], h)) rfl rfl rfl ?_
    refine xle_next (i := .iadd) (x' := (335, [(0, .ref a0), (1, .int xv1)], [.int ((Int32.ofInt 1) + xv1), va_rf r123], h)) rfl rfl rfl ?_
    refine xle_next (i := .iconst 3) (x' := (336, [(0, .ref a0), (1, .int xv1)], [.int (Int32.ofInt 3), .int ((Int32.ofInt 1) + xv1), va_rf r123], h)) rfl rfl rfl ?_
    refine xle_some (fun r_ => (336, [(0, .ref a0), (1, .int xv1)], [.int (Int32.ofInt 3), .int ((Int32.ofInt 1) + xv1), va_rf r_], h)) (fun a124 => ?_)
    refine xle_iast rfl rfl (fun h125 => ?_)
    refine xle_next (i := .aload_n 0) (x' := (338, [(0, .ref a0), (1, .int xv1)], [.ref a0], h125)) rfl rfl rfl ?_
    refine xle_getR (f := (6, 6, .array .boolean, 2)) rfl rfl rfl (fun r126 => ?_)
    refine xle_next (i := .iconst 1) (x' := (342, [(0, .ref a0), (1, .int xv1)], [.int (Int32.ofInt 1), va_rf r126], h125)) rfl rfl rfl ?_
    refine xle_next (i := .iload_n 1) (x' := (343, [(0, .ref a0), (1, .int xv1)], [.int xv1, .int (Int32.ofInt 1), va_rf r126], h125)) rfl rfl rfl ?_
    refine xle_next (i := .iadd) (x' := (344, [(0, .ref a0), (1, .int xv1)], [.int ((Int32.ofInt 1) + xv1), va_rf r126], h125)) rfl rfl rfl ?_
    refine xle_next (i := .iconst 1) (x' := (345, [(0, .ref a0), (1, .int xv1)], [.int (Int32.ofInt 1), .int ((Int32.ofInt 1) + xv1), va_rf r126], h125)) rfl rfl rfl ?_
    refine xle_some (fun r_ => (345, [(0, .ref a0), (1, .int xv1)], [.int (Int32.ofInt 1), .int ((Int32.ofInt 1) + xv1), va_rf r_], h125)) (fun a127 => ?_)
    refine xle_bast rfl rfl (fun h128 => ?_)
    refine xle_next (i := .aload_n 0) (x' := (347, [(0, .ref a0), (1, .int xv1)], [.ref a0], h128)) rfl rfl rfl ?_
    refine xle_getR (f := (6, 2, .array .int, 2)) rfl rfl rfl (fun r129 => ?_)
    refine xle_next (i := .iconst 4) (x' := (351, [(0, .ref a0), (1, .int xv1)], [.int (Int32.ofInt 4), va_rf r129], h128)) rfl rfl rfl ?_
    refine xle_next (i := .iload_n 1) (x' := (352, [(0, .ref a0), (1, .int xv1)], [.int xv1, .int (Int32.ofInt 4), va_rf r129], h128)) rfl rfl rfl ?_
    refine xle_next (i := .iadd) (x' := (353, [(0, .ref a0), (1, .int xv1)], [.int ((Int32.ofInt 4) + xv1), va_rf r129], h128)) rfl rfl rfl ?_
    refine xle_next (i := .bipush 16) (x' := (355, [(0, .ref a0), (1, .int xv1)], [.int ((Int8.ofInt 16).toInt32), .int ((Int32.ofInt 4) + xv1), va_rf r129], h128)) rfl rfl rfl ?_
    refine xle_some (fun r_ => (355, [(0, .ref a0), (1, .int xv1)], [.int ((Int8.ofInt 16).toInt32), .int ((Int32.ofInt 4) + xv1), va_rf r_], h128)) (fun a130 => ?_)
    refine xle_iast rfl rfl (fun h131 => ?_)
    refine xle_next (i := .aload_n 0) (x' := (357, [(0, .ref a0), (1, .int xv1)], [.ref a0], h131)) rfl rfl rfl ?_
    refine xle_getR (f := (6, 6, .array .boolean, 2)) rfl rfl rfl (fun r132 => ?_)
    refine xle_next (i := .iconst 4) (x' := (361, [(0, .ref a0), (1, .int xv1)], [.int (Int32.ofInt 4), va_rf r132], h131)) rfl rfl rfl ?_
    refine xle_next (i := .iload_n 1) (x' := (362, [(0, .ref a0), (1, .int xv1)], [.int xv1, .int (Int32.ofInt 4), va_rf r132], h131)) rfl rfl rfl ?_
    refine xle_next (i := .iadd) (x' := (363, [(0, .ref a0), (1, .int xv1)], [.int ((Int32.ofInt 4) + xv1), va_rf r132], h131)) rfl rfl rfl ?_
    refine xle_next (i := .iconst 1) (x' := (364, [(0, .ref a0), (1, .int xv1)], [.int (Int32.ofInt 1), .int ((Int32.ofInt 4) + xv1), va_rf r132], h131)) rfl rfl rfl ?_
    refine xle_some (fun r_ => (364, [(0, .ref a0), (1, .int xv1)], [.int (Int32.ofInt 1), .int ((Int32.ofInt 4) + xv1), va_rf r_], h131)) (fun a133 => ?_)
    refine xle_bast rfl rfl (fun h134 => ?_)
    refine xle_next (i := .aload_n 0) (x' := (366, [(0, .ref a0), (1, .int xv1)], [.ref a0], h134)) rfl rfl rfl ?_
    refine xle_getR (f := (6, 20, .array .int, 2)) rfl rfl rfl (fun r135 => ?_)
    refine xle_next (i := .iload_n 1) (x' := (370, [(0, .ref a0), (1, .int xv1)], [.int xv1, va_rf r135], h134)) rfl rfl rfl ?_
    refine xle_next (i := .iconst 1) (x' := (371, [(0, .ref a0), (1, .int xv1)], [.int (Int32.ofInt 1), .int xv1, va_rf r135], h134)) rfl rfl rfl ?_
    refine xle_some (fun r_ => (371, [(0, .ref a0), (1, .int xv1)], [.int (Int32.ofInt 1), .int xv1, va_rf r_], h134)) (fun a136 => ?_)
    refine xle_iast rfl rfl (fun h137 => ?_)
    refine xle_next (i := .aload_n 0) (x' := (373, [(0, .ref a0), (1, .int xv1)], [.ref a0], h137)) rfl rfl rfl ?_
    refine xle_getR (f := (6, 21, .array .int, 2)) rfl rfl rfl (fun r138 => ?_)
    refine xle_next (i := .iload_n 1) (x' := (377, [(0, .ref a0), (1, .int xv1)], [.int xv1, va_rf r138], h137)) rfl rfl rfl ?_
    refine xle_next (i := .iload_n 1) (x' := (378, [(0, .ref a0), (1, .int xv1)], [.int xv1, .int xv1, va_rf r138], h137)) rfl rfl rfl ?_
    refine xle_some (fun r_ => (378, [(0, .ref a0), (1, .int xv1)], [.int xv1, .int xv1, va_rf r_], h137)) (fun a139 => ?_)
    refine xle_iast rfl rfl (fun h140 => ?_)
    refine xle_next (i := .aload_n 0) (x' := (380, [(0, .ref a0), (1, .int xv1)], [.ref a0], h140)) rfl rfl rfl ?_
    refine xle_next (i := .bipush 8) (x' := (382, [(0, .ref a0), (1, .int xv1)], [.int ((Int8.ofInt 8).toInt32), .ref a0], h140)) rfl rfl rfl ?_
    refine xle_next (i := .iconst 1) (x' := (383, [(0, .ref a0), (1, .int xv1)], [.int (Int32.ofInt 1), .int ((Int8.ofInt 8).toInt32), .ref a0], h140)) rfl rfl rfl ?_
    refine xle_next (i := .iload_n 1) (x' := (384, [(0, .ref a0), (1, .int xv1)], [.int xv1, .int (Int32.ofInt 1), .int ((Int8.ofInt 8).toInt32), .ref a0], h140)) rfl rfl rfl ?_
    refine xle_next (i := .iadd) (x' := (385, [(0, .ref a0), (1, .int xv1)], [.int ((Int32.ofInt 1) + xv1), .int ((Int8.ofInt 8).toInt32), .ref a0], h140)) rfl rfl rfl ?_
    refine xle_next (i := .imul) (x' := (386, [(0, .ref a0), (1, .int xv1)], [.int (((Int8.ofInt 8).toInt32) * ((Int32.ofInt 1) + xv1)), .ref a0], h140)) rfl rfl rfl ?_
    refine xle_next (i := .iconst 0) (x' := (387, [(0, .ref a0), (1, .int xv1)], [.int (Int32.ofInt 0), .int (((Int8.ofInt 8).toInt32) * ((Int32.ofInt 1) + xv1)), .ref a0], h140)) rfl rfl rfl ?_
    refine xle_next (i := .iconst 2) (x' := (388, [(0, .ref a0), (1, .int xv1)], [.int (Int32.ofInt 2), .int (Int32.ofInt 0), .int (((Int8.ofInt 8).toInt32) * ((Int32.ofInt 1) + xv1)), .ref a0], h140)) rfl rfl rfl ?_
    refine xle_next (i := .iload_n 1) (x' := (389, [(0, .ref a0), (1, .int xv1)], [.int xv1, .int (Int32.ofInt 2), .int (Int32.ofInt 0), .int (((Int8.ofInt 8).toInt32) * ((Int32.ofInt 1) + xv1)), .ref a0], h140)) rfl rfl rfl ?_
    refine xle_next (i := .iconst 0) (x' := (390, [(0, .ref a0), (1, .int xv1)], [.int (Int32.ofInt 0), .int xv1, .int (Int32.ofInt 2), .int (Int32.ofInt 0), .int (((Int8.ofInt 8).toInt32) * ((Int32.ofInt 1) + xv1)), .ref a0], h140)) rfl rfl rfl ?_
    refine xle_isO (i := .invokevirtual 114) (bq := a0) (ci := 6) (fo := (f_M_put z [.ref a0, .int (((Int8.ofInt 8).toInt32) * ((Int32.ofInt 1) + xv1)), .int (Int32.ofInt 0), .int (Int32.ofInt 2), .int xv1, .int (Int32.ofInt 0)] h140).bind (xback 390 [(0, .ref a0), (1, .int xv1)] [])) rfl rfl rfl (fun hs => ?_)
    refine xle_clI (t := []) rfl rfl hs (fun x142 h141 => ?_)
    refine xle_next (i := .pop) (x' := (394, [(0, .ref a0), (1, .int xv1)], [], h141)) rfl rfl rfl ?_
    refine xle_next (i := .aload_n 0) (x' := (395, [(0, .ref a0), (1, .int xv1)], [.ref a0], h141)) rfl rfl rfl ?_
    refine xle_next (i := .bipush 8) (x' := (397, [(0, .ref a0), (1, .int xv1)], [.int ((Int8.ofInt 8).toInt32), .ref a0], h141)) rfl rfl rfl ?_
    refine xle_next (i := .iconst 1) (x' := (398, [(0, .ref a0), (1, .int xv1)], [.int (Int32.ofInt 1), .int ((Int8.ofInt 8).toInt32), .ref a0], h141)) rfl rfl rfl ?_
    refine xle_next (i := .iload_n 1) (x' := (399, [(0, .ref a0), (1, .int xv1)], [.int xv1, .int (Int32.ofInt 1), .int ((Int8.ofInt 8).toInt32), .ref a0], h141)) rfl rfl rfl ?_
    refine xle_next (i := .iadd) (x' := (400, [(0, .ref a0), (1, .int xv1)], [.int ((Int32.ofInt 1) + xv1), .int ((Int8.ofInt 8).toInt32), .ref a0], h141)) rfl rfl rfl ?_
    refine xle_next (i := .imul) (x' := (401, [(0, .ref a0), (1, .int xv1)], [.int (((Int8.ofInt 8).toInt32) * ((Int32.ofInt 1) + xv1)), .ref a0], h141)) rfl rfl rfl ?_
    refine xle_next (i := .iconst 1) (x' := (402, [(0, .ref a0), (1, .int xv1)], [.int (Int32.ofInt 1), .int (((Int8.ofInt 8).toInt32) * ((Int32.ofInt 1) + xv1)), .ref a0], h141)) rfl rfl rfl ?_
    refine xle_next (i := .iadd) (x' := (403, [(0, .ref a0), (1, .int xv1)], [.int ((((Int8.ofInt 8).toInt32) * ((Int32.ofInt 1) + xv1)) + (Int32.ofInt 1)), .ref a0], h141)) rfl rfl rfl ?_
    refine xle_next (i := .iconst 4) (x' := (404, [(0, .ref a0), (1, .int xv1)], [.int (Int32.ofInt 4), .int ((((Int8.ofInt 8).toInt32) * ((Int32.ofInt 1) + xv1)) + (Int32.ofInt 1)), .ref a0], h141)) rfl rfl rfl ?_
    refine xle_next (i := .iload_n 1) (x' := (405, [(0, .ref a0), (1, .int xv1)], [.int xv1, .int (Int32.ofInt 4), .int ((((Int8.ofInt 8).toInt32) * ((Int32.ofInt 1) + xv1)) + (Int32.ofInt 1)), .ref a0], h141)) rfl rfl rfl ?_
    refine xle_next (i := .iadd) (x' := (406, [(0, .ref a0), (1, .int xv1)], [.int ((Int32.ofInt 4) + xv1), .int ((((Int8.ofInt 8).toInt32) * ((Int32.ofInt 1) + xv1)) + (Int32.ofInt 1)), .ref a0], h141)) rfl rfl rfl ?_
    refine xle_next (i := .bipush 7) (x' := (408, [(0, .ref a0), (1, .int xv1)], [.int ((Int8.ofInt 7).toInt32), .int ((Int32.ofInt 4) + xv1), .int ((((Int8.ofInt 8).toInt32) * ((Int32.ofInt 1) + xv1)) + (Int32.ofInt 1)), .ref a0], h141)) rfl rfl rfl ?_
    refine xle_next (i := .iconst 0) (x' := (409, [(0, .ref a0), (1, .int xv1)], [.int (Int32.ofInt 0), .int ((Int8.ofInt 7).toInt32), .int ((Int32.ofInt 4) + xv1), .int ((((Int8.ofInt 8).toInt32) * ((Int32.ofInt 1) + xv1)) + (Int32.ofInt 1)), .ref a0], h141)) rfl rfl rfl ?_
    refine xle_next (i := .iconst 0) (x' := (410, [(0, .ref a0), (1, .int xv1)], [.int (Int32.ofInt 0), .int (Int32.ofInt 0), .int ((Int8.ofInt 7).toInt32), .int ((Int32.ofInt 4) + xv1), .int ((((Int8.ofInt 8).toInt32) * ((Int32.ofInt 1) + xv1)) + (Int32.ofInt 1)), .ref a0], h141)) rfl rfl rfl ?_
    refine xle_isO (i := .invokevirtual 114) (bq := a0) (ci := 6) (fo := (f_M_put z [.ref a0, .int ((((Int8.ofInt 8).toInt32) * ((Int32.ofInt 1) + xv1)) + (Int32.ofInt 1)), .int ((Int32.ofInt 4) + xv1), .int ((Int8.ofInt 7).toInt32), .int (Int32.ofInt 0), .int (Int32.ofInt 0)] h141).bind (xback 410 [(0, .ref a0), (1, .int xv1)] [])) rfl rfl rfl (fun hs => ?_)
    refine xle_clI (t := []) rfl rfl hs (fun x144 h143 => ?_)
    refine xle_next (i := .pop) (x' := (414, [(0, .ref a0), (1, .int xv1)], [], h143)) rfl rfl rfl ?_
    refine xle_next (i := .aload_n 0) (x' := (415, [(0, .ref a0), (1, .int xv1)], [.ref a0], h143)) rfl rfl rfl ?_
    refine xle_next (i := .bipush 8) (x' := (417, [(0, .ref a0), (1, .int xv1)], [.int ((Int8.ofInt 8).toInt32), .ref a0], h143)) rfl rfl rfl ?_
    refine xle_next (i := .iconst 1) (x' := (418, [(0, .ref a0), (1, .int xv1)], [.int (Int32.ofInt 1), .int ((Int8.ofInt 8).toInt32), .ref a0], h143)) rfl rfl rfl ?_
    refine xle_next (i := .iload_n 1) (x' := (419, [(0, .ref a0), (1, .int xv1)], [.int xv1, .int (Int32.ofInt 1), .int ((Int8.ofInt 8).toInt32), .ref a0], h143)) rfl rfl rfl ?_
    refine xle_next (i := .iadd) (x' := (420, [(0, .ref a0), (1, .int xv1)], [.int ((Int32.ofInt 1) + xv1), .int ((Int8.ofInt 8).toInt32), .ref a0], h143)) rfl rfl rfl ?_
    refine xle_next (i := .imul) (x' := (421, [(0, .ref a0), (1, .int xv1)], [.int (((Int8.ofInt 8).toInt32) * ((Int32.ofInt 1) + xv1)), .ref a0], h143)) rfl rfl rfl ?_
    refine xle_next (i := .iconst 2) (x' := (422, [(0, .ref a0), (1, .int xv1)], [.int (Int32.ofInt 2), .int (((Int8.ofInt 8).toInt32) * ((Int32.ofInt 1) + xv1)), .ref a0], h143)) rfl rfl rfl ?_
    refine xle_next (i := .iadd) (x' := (423, [(0, .ref a0), (1, .int xv1)], [.int ((((Int8.ofInt 8).toInt32) * ((Int32.ofInt 1) + xv1)) + (Int32.ofInt 2)), .ref a0], h143)) rfl rfl rfl ?_
    refine xle_next (i := .bipush 8) (x' := (425, [(0, .ref a0), (1, .int xv1)], [.int ((Int8.ofInt 8).toInt32), .int ((((Int8.ofInt 8).toInt32) * ((Int32.ofInt 1) + xv1)) + (Int32.ofInt 2)), .ref a0], h143)) rfl rfl rfl ?_
    refine xle_next (i := .bipush 7) (x' := (427, [(0, .ref a0), (1, .int xv1)], [.int ((Int8.ofInt 7).toInt32), .int ((Int8.ofInt 8).toInt32), .int ((((Int8.ofInt 8).toInt32) * ((Int32.ofInt 1) + xv1)) + (Int32.ofInt 2)), .ref a0], h143)) rfl rfl rfl ?_
    refine xle_next (i := .iconst 0) (x' := (428, [(0, .ref a0), (1, .int xv1)], [.int (Int32.ofInt 0), .int ((Int8.ofInt 7).toInt32), .int ((Int8.ofInt 8).toInt32), .int ((((Int8.ofInt 8).toInt32) * ((Int32.ofInt 1) + xv1)) + (Int32.ofInt 2)), .ref a0], h143)) rfl rfl rfl ?_
    refine xle_next (i := .iconst 0) (x' := (429, [(0, .ref a0), (1, .int xv1)], [.int (Int32.ofInt 0), .int (Int32.ofInt 0), .int ((Int8.ofInt 7).toInt32), .int ((Int8.ofInt 8).toInt32), .int ((((Int8.ofInt 8).toInt32) * ((Int32.ofInt 1) + xv1)) + (Int32.ofInt 2)), .ref a0], h143)) rfl rfl rfl ?_
    refine xle_isO (i := .invokevirtual 114) (bq := a0) (ci := 6) (fo := (f_M_put z [.ref a0, .int ((((Int8.ofInt 8).toInt32) * ((Int32.ofInt 1) + xv1)) + (Int32.ofInt 2)), .int ((Int8.ofInt 8).toInt32), .int ((Int8.ofInt 7).toInt32), .int (Int32.ofInt 0), .int (Int32.ofInt 0)] h143).bind (xback 429 [(0, .ref a0), (1, .int xv1)] [])) rfl rfl rfl (fun hs => ?_)
    refine xle_clI (t := []) rfl rfl hs (fun x146 h145 => ?_)
    refine xle_next (i := .pop) (x' := (433, [(0, .ref a0), (1, .int xv1)], [], h145)) rfl rfl rfl ?_
    refine xle_next (i := .aload_n 0) (x' := (434, [(0, .ref a0), (1, .int xv1)], [.ref a0], h145)) rfl rfl rfl ?_
    refine xle_next (i := .bipush 8) (x' := (436, [(0, .ref a0), (1, .int xv1)], [.int ((Int8.ofInt 8).toInt32), .ref a0], h145)) rfl rfl rfl ?_
    refine xle_next (i := .iconst 1) (x' := (437, [(0, .ref a0), (1, .int xv1)], [.int (Int32.ofInt 1), .int ((Int8.ofInt 8).toInt32), .ref a0], h145)) rfl rfl rfl ?_
    refine xle_next (i := .iload_n 1) (x' := (438, [(0, .ref a0), (1, .int xv1)], [.int xv1, .int (Int32.ofInt 1), .int ((Int8.ofInt 8).toInt32), .ref a0], h145)) rfl rfl rfl ?_
    refine xle_next (i := .iadd) (x' := (439, [(0, .ref a0), (1, .int xv1)], [.int ((Int32.ofInt 1) + xv1), .int ((Int8.ofInt 8).toInt32), .ref a0], h145)) rfl rfl rfl ?_
    refine xle_next (i := .imul) (x' := (440, [(0, .ref a0), (1, .int xv1)], [.int (((Int8.ofInt 8).toInt32) * ((Int32.ofInt 1) + xv1)), .ref a0], h145)) rfl rfl rfl ?_
    refine xle_next (i := .iconst 3) (x' := (441, [(0, .ref a0), (1, .int xv1)], [.int (Int32.ofInt 3), .int (((Int8.ofInt 8).toInt32) * ((Int32.ofInt 1) + xv1)), .ref a0], h145)) rfl rfl rfl ?_
    refine xle_next (i := .iadd) (x' := (442, [(0, .ref a0), (1, .int xv1)], [.int ((((Int8.ofInt 8).toInt32) * ((Int32.ofInt 1) + xv1)) + (Int32.ofInt 3)), .ref a0], h145)) rfl rfl rfl ?_
    refine xle_next (i := .bipush 9) (x' := (444, [(0, .ref a0), (1, .int xv1)], [.int ((Int8.ofInt 9).toInt32), .int ((((Int8.ofInt 8).toInt32) * ((Int32.ofInt 1) + xv1)) + (Int32.ofInt 3)), .ref a0], h145)) rfl rfl rfl ?_
    refine xle_next (i := .bipush 7) (x' := (446, [(0, .ref a0), (1, .int xv1)], [.int ((Int8.ofInt 7).toInt32), .int ((Int8.ofInt 9).toInt32), .int ((((Int8.ofInt 8).toInt32) * ((Int32.ofInt 1) + xv1)) + (Int32.ofInt 3)), .ref a0], h145)) rfl rfl rfl ?_
    refine xle_next (i := .iconst 0) (x' := (447, [(0, .ref a0), (1, .int xv1)], [.int (Int32.ofInt 0), .int ((Int8.ofInt 7).toInt32), .int ((Int8.ofInt 9).toInt32), .int ((((Int8.ofInt 8).toInt32) * ((Int32.ofInt 1) + xv1)) + (Int32.ofInt 3)), .ref a0], h145)) rfl rfl rfl ?_
    refine xle_next (i := .iconst 0) (x' := (448, [(0, .ref a0), (1, .int xv1)], [.int (Int32.ofInt 0), .int (Int32.ofInt 0), .int ((Int8.ofInt 7).toInt32), .int ((Int8.ofInt 9).toInt32), .int ((((Int8.ofInt 8).toInt32) * ((Int32.ofInt 1) + xv1)) + (Int32.ofInt 3)), .ref a0], h145)) rfl rfl rfl ?_
    refine xle_isO (i := .invokevirtual 114) (bq := a0) (ci := 6) (fo := (f_M_put z [.ref a0, .int ((((Int8.ofInt 8).toInt32) * ((Int32.ofInt 1) + xv1)) + (Int32.ofInt 3)), .int ((Int8.ofInt 9).toInt32), .int ((Int8.ofInt 7).toInt32), .int (Int32.ofInt 0), .int (Int32.ofInt 0)] h145).bind (xback 448 [(0, .ref a0), (1, .int xv1)] [])) rfl rfl rfl (fun hs => ?_)
    refine xle_clI (t := []) rfl rfl hs (fun x148 h147 => ?_)
    refine xle_next (i := .pop) (x' := (452, [(0, .ref a0), (1, .int xv1)], [], h147)) rfl rfl rfl ?_
    refine xle_next (i := .iinc 1 1) (x' := (455, [(0, .ref a0), (1, .int (xv1 + Int32.ofInt 1))], [], h147)) rfl rfl rfl ?_
    refine xle_next (i := .goto (-132)) (x' := (323, [(0, .ref a0), (1, .int (xv1 + Int32.ofInt 1))], [], h147)) rfl rfl rfl ?_
    exact xle_jump rfl
noncomputable def B_M_within_14 (z : xzs)  (h : xH) : Option xR := xev (K_M_within z) (14, [], [], h)
noncomputable def B_M_within_15 (z : xzs) (xs0 : Int32) (h : xH) : Option xR := xev (K_M_within z) (15, [], [.int xs0], h)
noncomputable def D_M_within_0 (z : xzs) (p0 : Int32) (p1 : Int32) (p2 : Int32) (h : xH) : Option xR :=
  if p0 < p1 then
    B_M_within_14 z h
  else
    if p2 < p0 then
      B_M_within_14 z h
    else
      B_M_within_15 z (Int32.ofInt 1) h
set_option maxRecDepth 20000 in
theorem E_M_within (z : xzs) (p0 : Int32) (p1 : Int32) (p2 : Int32) (h : xH) : xle (D_M_within_0 z p0 p1 p2 h) (xfun (K_M_within z) 3 [.int p0, .int p1, .int p2] h) := by
  unfold D_M_within_0
  refine xle_entry (Nat.le_of_ble_eq_true rfl) (xal_c (xca_i _) (xal_c (xca_i _) (xal_c (xca_i _) (rfl)))) ?_
  show xle _ (xev (K_M_within z) (0, [(0, .int p0), (1, .int p1), (2, .int p2)], [], h))
  refine xle_next (i := .iload_n 0) (x' := (1, [(0, .int p0), (1, .int p1), (2, .int p2)], [.int p0], h)) rfl rfl rfl ?_
  refine xle_next (i := .iload_n 1) (x' := (2, [(0, .int p0), (1, .int p1), (2, .int p2)], [.int p1, .int p0], h)) rfl rfl rfl ?_
  refine xle_icmp (cd := .lt) (q := 14) rfl rfl rfl xc_lt (fun _ => ?_) (fun _ => ?_)
  · exact xle_jump rfl
  · refine xle_next (i := .iload_n 0) (x' := (6, [(0, .int p0), (1, .int p1), (2, .int p2)], [.int p0], h)) rfl rfl rfl ?_
    refine xle_next (i := .iload_n 2) (x' := (7, [(0, .int p0), (1, .int p1), (2, .int p2)], [.int p2, .int p0], h)) rfl rfl rfl ?_
    refine xle_icmp (cd := .gt) (q := 14) rfl rfl rfl xc_gt (fun _ => ?_) (fun _ => ?_)
    · exact xle_jump rfl
    · refine xle_next (i := .iconst 1) (x' := (11, [(0, .int p0), (1, .int p1), (2, .int p2)], [.int (Int32.ofInt 1)], h)) rfl rfl rfl ?_
      refine xle_next (i := .goto 4) (x' := (15, [(0, .int p0), (1, .int p1), (2, .int p2)], [.int (Int32.ofInt 1)], h)) rfl rfl rfl ?_
      exact xle_jump rfl
noncomputable def D_M_within_14 (z : xzs)  (h : xH) : Option xR :=
  B_M_within_15 z (Int32.ofInt 0) h
set_option maxRecDepth 20000 in
theorem E_M_within_14 (z : xzs)  (h : xH) : xle (D_M_within_14 z  h) (B_M_within_14 z  h) := by
  unfold D_M_within_14 B_M_within_14
  refine xle_next (i := .iconst 0) (x' := (15, [], [.int (Int32.ofInt 0)], h)) rfl rfl rfl ?_
  exact xle_jump rfl
noncomputable def D_M_within_15 (z : xzs) (xs0 : Int32) (h : xH) : Option xR :=
  if xs0 = 0 ∨ xs0 = 1 then some (.inl (some (.int xs0)), h) else none
set_option maxRecDepth 20000 in
theorem E_M_within_15 (z : xzs) (xs0 : Int32) (h : xH) : xle (D_M_within_15 z xs0 h) (B_M_within_15 z xs0 h) := by
  unfold D_M_within_15 B_M_within_15
  exact xle_zret rfl rfl rfl
noncomputable def D_M_fail_0 (z : xzs) (a0 : Nat) (p1 : Int32) (h : xH) : Option xR :=
  (xwr h a0 6 0 (.int p1)).bind fun h1 =>
  some (.inl (some (.int (Int32.ofInt 0))), h1)
set_option maxRecDepth 20000 in
theorem E_M_fail (z : xzs) (a0 : Nat) (p1 : Int32) (h : xH) : xle (D_M_fail_0 z a0 p1 h) (xfun (K_M_fail z) 2 [.ref a0, .int p1] h) := by
  unfold D_M_fail_0
  refine xle_entry (Nat.le_of_ble_eq_true rfl) (xal_c (xca_a _) (xal_c (xca_i _) (rfl))) ?_
  show xle _ (xev (K_M_fail z) (0, [(0, .ref a0), (1, .int p1)], [], h))
  refine xle_next (i := .aload_n 0) (x' := (1, [(0, .ref a0), (1, .int p1)], [.ref a0], h)) rfl rfl rfl ?_
  refine xle_next (i := .iload_n 1) (x' := (2, [(0, .ref a0), (1, .int p1)], [.int p1, .ref a0], h)) rfl rfl rfl ?_
  refine xle_put (v := .int p1) (f := (6, 0, .int, 1)) rfl rfl rfl ⟨by decide, rfl, rfl⟩ (fun h1 => ?_)
  refine xle_next (i := .iconst 0) (x' := (6, [(0, .ref a0), (1, .int p1)], [.int (Int32.ofInt 0)], h1)) rfl rfl rfl ?_
  exact xle_end (i := .ireturn) rfl rfl rfl
noncomputable def D_M_thrown_0 (z : xzs) (a0 : Nat) (h : xH) : Option xR :=
  (rdI h a0 6 0).bind fun x1 =>
  some (.inl (some (.int x1)), h)
set_option maxRecDepth 20000 in
theorem E_M_thrown (z : xzs) (a0 : Nat) (h : xH) : xle (D_M_thrown_0 z a0 h) (xfun (K_M_thrown z) 1 [.ref a0] h) := by
  unfold D_M_thrown_0
  refine xle_entry (Nat.le_of_ble_eq_true rfl) (xal_c (xca_a _) (rfl)) ?_
  show xle _ (xev (K_M_thrown z) (0, [(0, .ref a0)], [], h))
  refine xle_next (i := .aload_n 0) (x' := (1, [(0, .ref a0)], [.ref a0], h)) rfl rfl rfl ?_
  refine xle_getI (f := (6, 0, .int, 1)) rfl rfl rfl (fun x1 => ?_)
  exact xle_end (i := .ireturn) rfl rfl rfl
noncomputable def B_M_now_4 (z : xzs) (a0 : Nat) (xv1 : Int32) (xv2 : Int32) (h : xH) : Option xR := xev (K_M_now z) (4, [(0, .ref a0), (1, .int xv1), (2, .int xv2)], [], h)
noncomputable def B_M_now_70 (z : xzs) (a0 : Nat) (xv1 : Int32) (xv2 : Int32) (h : xH) : Option xR := xev (K_M_now z) (70, [(0, .ref a0), (1, .int xv1), (2, .int xv2)], [], h)
noncomputable def B_M_now_74 (z : xzs) (a0 : Nat) (xv1 : Int32) (xv2 : Int32) (h : xH) : Option xR := xev (K_M_now z) (74, [(0, .ref a0), (1, .int xv1), (2, .int xv2)], [], h)
noncomputable def B_M_now_82 (z : xzs) (a0 : Nat) (xv1 : Int32) (xv2 : Int32) (h : xH) : Option xR := xev (K_M_now z) (82, [(0, .ref a0), (1, .int xv1), (2, .int xv2)], [], h)
noncomputable def B_M_now_75 (z : xzs) (a0 : Nat) (xv1 : Int32) (xv2 : Int32) (xs0 : Int32) (h : xH) : Option xR := xev (K_M_now z) (75, [(0, .ref a0), (1, .int xv1), (2, .int xv2)], [.int xs0], h)
noncomputable def D_M_now_0 (z : xzs) (a0 : Nat) (h : xH) : Option xR :=
  B_M_now_4 z a0 (Int32.ofInt 0) (Int32.ofInt 1) h
set_option maxRecDepth 20000 in
theorem E_M_now (z : xzs) (a0 : Nat) (h : xH) : xle (D_M_now_0 z a0 h) (xfun (K_M_now z) 4 [.ref a0] h) := by
  unfold D_M_now_0
  refine xle_entry (Nat.le_of_ble_eq_true rfl) (xal_c (xca_a _) (rfl)) ?_
  show xle _ (xev (K_M_now z) (0, [(0, .ref a0)], [], h))
  refine xle_next (i := .iconst 0) (x' := (1, [(0, .ref a0)], [.int (Int32.ofInt 0)], h)) rfl rfl rfl ?_
  refine xle_next (i := .istore_n 1) (x' := (2, [(0, .ref a0), (1, .int (Int32.ofInt 0))], [], h)) rfl rfl rfl ?_
  refine xle_next (i := .iconst 1) (x' := (3, [(0, .ref a0), (1, .int (Int32.ofInt 0))], [.int (Int32.ofInt 1)], h)) rfl rfl rfl ?_
  refine xle_next (i := .istore_n 2) (x' := (4, [(0, .ref a0), (1, .int (Int32.ofInt 0)), (2, .int (Int32.ofInt 1))], [], h)) rfl rfl rfl ?_
  exact xle_jump rfl
noncomputable def D_M_now_4 (z : xzs) (a0 : Nat) (xv1 : Int32) (xv2 : Int32) (h : xH) : Option xR :=
  if (Int32.ofInt 4) ≤ xv2 then
    some (.inl (some (.int xv1)), h)
  else
    (rdR h a0 6 15).bind fun r1 =>
    r1.bind fun a2 =>
    (rdA 0 h a2 xv2).bind fun x3 =>
    if x3 = 0 then
      if xv1 = 0 then
        B_M_now_70 z a0 xv1 xv2 h
      else
        (rdR h a0 6 20).bind fun r4 =>
        r4.bind fun a5 =>
        (rdA 0 h a5 xv2).bind fun x6 =>
        (rdR h a0 6 20).bind fun r7 =>
        r7.bind fun a8 =>
        (rdA 0 h a8 xv1).bind fun x9 =>
        if x9 < x6 then
          B_M_now_70 z a0 xv1 xv2 h
        else
          (rdR h a0 6 20).bind fun r10 =>
          r10.bind fun a11 =>
          (rdA 0 h a11 xv2).bind fun x12 =>
          (rdR h a0 6 20).bind fun r13 =>
          r13.bind fun a14 =>
          (rdA 0 h a14 xv1).bind fun x15 =>
          if ¬ x12 = x15 then
            B_M_now_74 z a0 xv1 xv2 h
          else
            (rdR h a0 6 21).bind fun r16 =>
            r16.bind fun a17 =>
            (rdA 0 h a17 xv2).bind fun x18 =>
            (rdR h a0 6 21).bind fun r19 =>
            r19.bind fun a20 =>
            (rdA 0 h a20 xv1).bind fun x21 =>
            if x21 ≤ x18 then
              B_M_now_74 z a0 xv1 xv2 h
            else
              B_M_now_70 z a0 xv1 xv2 h
    else
      B_M_now_82 z a0 xv1 xv2 h
set_option maxRecDepth 20000 in
theorem E_M_now_4 (z : xzs) (a0 : Nat) (xv1 : Int32) (xv2 : Int32) (h : xH) : xle (D_M_now_4 z a0 xv1 xv2 h) (B_M_now_4 z a0 xv1 xv2 h) := by
  unfold D_M_now_4 B_M_now_4
  refine xle_next (i := .iload_n 2) (x' := (5, [(0, .ref a0), (1, .int xv1), (2, .int xv2)], [.int xv2], h)) rfl rfl rfl ?_
  refine xle_next (i := .iconst 4) (x' := (6, [(0, .ref a0), (1, .int xv1), (2, .int xv2)], [.int (Int32.ofInt 4), .int xv2], h)) rfl rfl rfl ?_
  refine xle_icmp (cd := .ge) (q := 88) rfl rfl rfl xc_ge (fun _ => ?_) (fun _ => ?_)
  · refine xle_next (i := .iload_n 1) (x' := (89, [(0, .ref a0), (1, .int xv1), (2, .int xv2)], [.int xv1], h)) rfl rfl rfl ?_
    exact xle_end (i := .ireturn) rfl rfl rfl
  · refine xle_next (i := .aload_n 0) (x' := (10, [(0, .ref a0), (1, .int xv1), (2, .int xv2)], [.ref a0], h)) rfl rfl rfl ?_
    refine xle_getR (f := (6, 15, .array .int, 0)) rfl rfl rfl (fun r1 => ?_)
    refine xle_next (i := .iload_n 2) (x' := (14, [(0, .ref a0), (1, .int xv1), (2, .int xv2)], [.int xv2, va_rf r1], h)) rfl rfl rfl ?_
    refine xle_some (fun r_ => (14, [(0, .ref a0), (1, .int xv1), (2, .int xv2)], [.int xv2, va_rf r_], h)) (fun a2 => ?_)
    refine xle_iald rfl rfl (fun x3 => ?_)
    refine xle_if (cd := .eq) (q := 21) rfl rfl rfl xc_eq (fun _ => ?_) (fun _ => ?_)
    · refine xle_next (i := .iload_n 1) (x' := (22, [(0, .ref a0), (1, .int xv1), (2, .int xv2)], [.int xv1], h)) rfl rfl rfl ?_
      refine xle_if (cd := .eq) (q := 70) rfl rfl rfl xc_eq (fun _ => ?_) (fun _ => ?_)
      · exact xle_jump rfl
      · refine xle_next (i := .aload_n 0) (x' := (26, [(0, .ref a0), (1, .int xv1), (2, .int xv2)], [.ref a0], h)) rfl rfl rfl ?_
        refine xle_getR (f := (6, 20, .array .int, 0)) rfl rfl rfl (fun r4 => ?_)
        refine xle_next (i := .iload_n 2) (x' := (30, [(0, .ref a0), (1, .int xv1), (2, .int xv2)], [.int xv2, va_rf r4], h)) rfl rfl rfl ?_
        refine xle_some (fun r_ => (30, [(0, .ref a0), (1, .int xv1), (2, .int xv2)], [.int xv2, va_rf r_], h)) (fun a5 => ?_)
        refine xle_iald rfl rfl (fun x6 => ?_)
        refine xle_next (i := .aload_n 0) (x' := (32, [(0, .ref a0), (1, .int xv1), (2, .int xv2)], [.ref a0, .int x6], h)) rfl rfl rfl ?_
        refine xle_getR (f := (6, 20, .array .int, 0)) rfl rfl rfl (fun r7 => ?_)
        refine xle_next (i := .iload_n 1) (x' := (36, [(0, .ref a0), (1, .int xv1), (2, .int xv2)], [.int xv1, va_rf r7, .int x6], h)) rfl rfl rfl ?_
        refine xle_some (fun r_ => (36, [(0, .ref a0), (1, .int xv1), (2, .int xv2)], [.int xv1, va_rf r_, .int x6], h)) (fun a8 => ?_)
        refine xle_iald rfl rfl (fun x9 => ?_)
        refine xle_icmp (cd := .gt) (q := 70) rfl rfl rfl xc_gt (fun _ => ?_) (fun _ => ?_)
        · exact xle_jump rfl
        · refine xle_next (i := .aload_n 0) (x' := (41, [(0, .ref a0), (1, .int xv1), (2, .int xv2)], [.ref a0], h)) rfl rfl rfl ?_
          refine xle_getR (f := (6, 20, .array .int, 0)) rfl rfl rfl (fun r10 => ?_)
          refine xle_next (i := .iload_n 2) (x' := (45, [(0, .ref a0), (1, .int xv1), (2, .int xv2)], [.int xv2, va_rf r10], h)) rfl rfl rfl ?_
          refine xle_some (fun r_ => (45, [(0, .ref a0), (1, .int xv1), (2, .int xv2)], [.int xv2, va_rf r_], h)) (fun a11 => ?_)
          refine xle_iald rfl rfl (fun x12 => ?_)
          refine xle_next (i := .aload_n 0) (x' := (47, [(0, .ref a0), (1, .int xv1), (2, .int xv2)], [.ref a0, .int x12], h)) rfl rfl rfl ?_
          refine xle_getR (f := (6, 20, .array .int, 0)) rfl rfl rfl (fun r13 => ?_)
          refine xle_next (i := .iload_n 1) (x' := (51, [(0, .ref a0), (1, .int xv1), (2, .int xv2)], [.int xv1, va_rf r13, .int x12], h)) rfl rfl rfl ?_
          refine xle_some (fun r_ => (51, [(0, .ref a0), (1, .int xv1), (2, .int xv2)], [.int xv1, va_rf r_, .int x12], h)) (fun a14 => ?_)
          refine xle_iald rfl rfl (fun x15 => ?_)
          refine xle_icmp (cd := .ne) (q := 74) rfl rfl rfl xc_ne (fun _ => ?_) (fun _ => ?_)
          · exact xle_jump rfl
          · refine xle_next (i := .aload_n 0) (x' := (56, [(0, .ref a0), (1, .int xv1), (2, .int xv2)], [.ref a0], h)) rfl rfl rfl ?_
            refine xle_getR (f := (6, 21, .array .int, 0)) rfl rfl rfl (fun r16 => ?_)
            refine xle_next (i := .iload_n 2) (x' := (60, [(0, .ref a0), (1, .int xv1), (2, .int xv2)], [.int xv2, va_rf r16], h)) rfl rfl rfl ?_
            refine xle_some (fun r_ => (60, [(0, .ref a0), (1, .int xv1), (2, .int xv2)], [.int xv2, va_rf r_], h)) (fun a17 => ?_)
            refine xle_iald rfl rfl (fun x18 => ?_)
            refine xle_next (i := .aload_n 0) (x' := (62, [(0, .ref a0), (1, .int xv1), (2, .int xv2)], [.ref a0, .int x18], h)) rfl rfl rfl ?_
            refine xle_getR (f := (6, 21, .array .int, 0)) rfl rfl rfl (fun r19 => ?_)
            refine xle_next (i := .iload_n 1) (x' := (66, [(0, .ref a0), (1, .int xv1), (2, .int xv2)], [.int xv1, va_rf r19, .int x18], h)) rfl rfl rfl ?_
            refine xle_some (fun r_ => (66, [(0, .ref a0), (1, .int xv1), (2, .int xv2)], [.int xv1, va_rf r_, .int x18], h)) (fun a20 => ?_)
            refine xle_iald rfl rfl (fun x21 => ?_)
            refine xle_icmp (cd := .ge) (q := 74) rfl rfl rfl xc_ge (fun _ => ?_) (fun _ => ?_)
            · exact xle_jump rfl
            · exact xle_jump rfl
    · refine xle_next (i := .goto 64) (x' := (82, [(0, .ref a0), (1, .int xv1), (2, .int xv2)], [], h)) rfl rfl rfl ?_
      exact xle_jump rfl
noncomputable def D_M_now_70 (z : xzs) (a0 : Nat) (xv1 : Int32) (xv2 : Int32) (h : xH) : Option xR :=
  B_M_now_75 z a0 xv1 xv2 (Int32.ofInt 1) h
set_option maxRecDepth 20000 in
theorem E_M_now_70 (z : xzs) (a0 : Nat) (xv1 : Int32) (xv2 : Int32) (h : xH) : xle (D_M_now_70 z a0 xv1 xv2 h) (B_M_now_70 z a0 xv1 xv2 h) := by
  unfold D_M_now_70 B_M_now_70
  refine xle_next (i := .iconst 1) (x' := (71, [(0, .ref a0), (1, .int xv1), (2, .int xv2)], [.int (Int32.ofInt 1)], h)) rfl rfl rfl ?_
  refine xle_next (i := .goto 4) (x' := (75, [(0, .ref a0), (1, .int xv1), (2, .int xv2)], [.int (Int32.ofInt 1)], h)) rfl rfl rfl ?_
  exact xle_jump rfl
noncomputable def D_M_now_74 (z : xzs) (a0 : Nat) (xv1 : Int32) (xv2 : Int32) (h : xH) : Option xR :=
  B_M_now_75 z a0 xv1 xv2 (Int32.ofInt 0) h
set_option maxRecDepth 20000 in
theorem E_M_now_74 (z : xzs) (a0 : Nat) (xv1 : Int32) (xv2 : Int32) (h : xH) : xle (D_M_now_74 z a0 xv1 xv2 h) (B_M_now_74 z a0 xv1 xv2 h) := by
  unfold D_M_now_74 B_M_now_74
  refine xle_next (i := .iconst 0) (x' := (75, [(0, .ref a0), (1, .int xv1), (2, .int xv2)], [.int (Int32.ofInt 0)], h)) rfl rfl rfl ?_
  exact xle_jump rfl
noncomputable def D_M_now_82 (z : xzs) (a0 : Nat) (xv1 : Int32) (xv2 : Int32) (h : xH) : Option xR :=
  B_M_now_4 z a0 xv1 (xv2 + Int32.ofInt 1) h
set_option maxRecDepth 20000 in
theorem E_M_now_82 (z : xzs) (a0 : Nat) (xv1 : Int32) (xv2 : Int32) (h : xH) : xle (D_M_now_82 z a0 xv1 xv2 h) (B_M_now_82 z a0 xv1 xv2 h) := by
  unfold D_M_now_82 B_M_now_82
  refine xle_next (i := .iinc 2 1) (x' := (85, [(0, .ref a0), (1, .int xv1), (2, .int (xv2 + Int32.ofInt 1))], [], h)) rfl rfl rfl ?_
  refine xle_next (i := .goto (-81)) (x' := (4, [(0, .ref a0), (1, .int xv1), (2, .int (xv2 + Int32.ofInt 1))], [], h)) rfl rfl rfl ?_
  exact xle_jump rfl
noncomputable def D_M_now_75 (z : xzs) (a0 : Nat) (xv1 : Int32) (xv2 : Int32) (xs0 : Int32) (h : xH) : Option xR :=
  if xs0 = 0 then
    B_M_now_82 z a0 xv1 xv2 h
  else
    B_M_now_82 z a0 xv2 xv2 h
set_option maxRecDepth 20000 in
theorem E_M_now_75 (z : xzs) (a0 : Nat) (xv1 : Int32) (xv2 : Int32) (xs0 : Int32) (h : xH) : xle (D_M_now_75 z a0 xv1 xv2 xs0 h) (B_M_now_75 z a0 xv1 xv2 xs0 h) := by
  unfold D_M_now_75 B_M_now_75
  refine xle_next (i := .istore_n 3) (x' := (76, [(0, .ref a0), (1, .int xv1), (2, .int xv2), (3, .int xs0)], [], h)) rfl rfl rfl ?_
  refine xle_next (i := .iload_n 3) (x' := (77, [(0, .ref a0), (1, .int xv1), (2, .int xv2), (3, .int xs0)], [.int xs0], h)) rfl rfl rfl ?_
  refine xle_if (cd := .eq) (q := 82) rfl rfl rfl xc_eq (fun _ => ?_) (fun _ => ?_)
  · exact xle_jump rfl
  · refine xle_next (i := .iload_n 2) (x' := (81, [(0, .ref a0), (1, .int xv1), (2, .int xv2), (3, .int xs0)], [.int xv2], h)) rfl rfl rfl ?_
    refine xle_next (i := .istore_n 1) (x' := (82, [(0, .ref a0), (1, .int xv2), (2, .int xv2), (3, .int xs0)], [], h)) rfl rfl rfl ?_
    exact xle_jump rfl
noncomputable def D_M_ready_0 (z : xzs) (a0 : Nat) (p1 : Int32) (h : xH) : Option xR :=
  (rdI h a0 6 31).bind fun x1 =>
  (xwr h a0 6 31 (.int (x1 + (Int32.ofInt 1)))).bind fun h2 =>
  (rdR h2 a0 6 21).bind fun r3 =>
  (rdI h2 a0 6 31).bind fun x4 =>
  r3.bind fun a5 =>
  (wrI h2 a5 p1 x4).bind fun h6 =>
  (rdR h6 a0 6 15).bind fun r7 =>
  r7.bind fun a8 =>
  (wrI h6 a8 p1 (Int32.ofInt 0)).bind fun h9 =>
  some (.inl none, h9)
set_option maxRecDepth 20000 in
theorem E_M_ready (z : xzs) (a0 : Nat) (p1 : Int32) (h : xH) : xle (D_M_ready_0 z a0 p1 h) (xfun (K_M_ready z) 2 [.ref a0, .int p1] h) := by
  unfold D_M_ready_0
  refine xle_entry (Nat.le_of_ble_eq_true rfl) (xal_c (xca_a _) (xal_c (xca_i _) (rfl))) ?_
  show xle _ (xev (K_M_ready z) (0, [(0, .ref a0), (1, .int p1)], [], h))
  refine xle_next (i := .aload_n 0) (x' := (1, [(0, .ref a0), (1, .int p1)], [.ref a0], h)) rfl rfl rfl ?_
  refine xle_next (i := .dup) (x' := (2, [(0, .ref a0), (1, .int p1)], [.ref a0, .ref a0], h)) rfl rfl rfl ?_
  refine xle_getI (f := (6, 31, .int, 1)) rfl rfl rfl (fun x1 => ?_)
  refine xle_next (i := .iconst 1) (x' := (6, [(0, .ref a0), (1, .int p1)], [.int (Int32.ofInt 1), .int x1, .ref a0], h)) rfl rfl rfl ?_
  refine xle_next (i := .iadd) (x' := (7, [(0, .ref a0), (1, .int p1)], [.int (x1 + (Int32.ofInt 1)), .ref a0], h)) rfl rfl rfl ?_
  refine xle_put (v := .int (x1 + (Int32.ofInt 1))) (f := (6, 31, .int, 1)) rfl rfl rfl ⟨by decide, rfl, rfl⟩ (fun h2 => ?_)
  refine xle_next (i := .aload_n 0) (x' := (11, [(0, .ref a0), (1, .int p1)], [.ref a0], h2)) rfl rfl rfl ?_
  refine xle_getR (f := (6, 21, .array .int, 0)) rfl rfl rfl (fun r3 => ?_)
  refine xle_next (i := .iload_n 1) (x' := (15, [(0, .ref a0), (1, .int p1)], [.int p1, va_rf r3], h2)) rfl rfl rfl ?_
  refine xle_next (i := .aload_n 0) (x' := (16, [(0, .ref a0), (1, .int p1)], [.ref a0, .int p1, va_rf r3], h2)) rfl rfl rfl ?_
  refine xle_getI (f := (6, 31, .int, 1)) rfl rfl rfl (fun x4 => ?_)
  refine xle_some (fun r_ => (19, [(0, .ref a0), (1, .int p1)], [.int x4, .int p1, va_rf r_], h2)) (fun a5 => ?_)
  refine xle_iast rfl rfl (fun h6 => ?_)
  refine xle_next (i := .aload_n 0) (x' := (21, [(0, .ref a0), (1, .int p1)], [.ref a0], h6)) rfl rfl rfl ?_
  refine xle_getR (f := (6, 15, .array .int, 0)) rfl rfl rfl (fun r7 => ?_)
  refine xle_next (i := .iload_n 1) (x' := (25, [(0, .ref a0), (1, .int p1)], [.int p1, va_rf r7], h6)) rfl rfl rfl ?_
  refine xle_next (i := .iconst 0) (x' := (26, [(0, .ref a0), (1, .int p1)], [.int (Int32.ofInt 0), .int p1, va_rf r7], h6)) rfl rfl rfl ?_
  refine xle_some (fun r_ => (26, [(0, .ref a0), (1, .int p1)], [.int (Int32.ofInt 0), .int p1, va_rf r_], h6)) (fun a8 => ?_)
  refine xle_iast rfl rfl (fun h9 => ?_)
  exact xle_end (i := .return_) rfl rfl rfl
noncomputable def D_M_comes_0 (z : xzs) (a0 : Nat) (p1 : Int32) (p2 : Int32) (p3 : Int32) (p4 : Int32) (h : xH) : Option xR :=
  (rdR h a0 6 16).bind fun r1 =>
  r1.bind fun a2 =>
  (wrI h a2 p1 (Int32.ofInt 0)).bind fun h3 =>
  (rdR h3 a0 6 17).bind fun r4 =>
  r4.bind fun a5 =>
  (wrI h3 a5 p1 p2).bind fun h6 =>
  (rdR h6 a0 6 18).bind fun r7 =>
  r7.bind fun a8 =>
  (wrI h6 a8 p1 p3).bind fun h9 =>
  (rdR h9 a0 6 19).bind fun r10 =>
  r10.bind fun a11 =>
  (wrI h9 a11 p1 p4).bind fun h12 =>
  some (.inl none, h12)
set_option maxRecDepth 20000 in
theorem E_M_comes (z : xzs) (a0 : Nat) (p1 : Int32) (p2 : Int32) (p3 : Int32) (p4 : Int32) (h : xH) : xle (D_M_comes_0 z a0 p1 p2 p3 p4 h) (xfun (K_M_comes z) 5 [.ref a0, .int p1, .int p2, .int p3, .int p4] h) := by
  unfold D_M_comes_0
  refine xle_entry (Nat.le_of_ble_eq_true rfl) (xal_c (xca_a _) (xal_c (xca_i _) (xal_c (xca_i _) (xal_c (xca_i _) (xal_c (xca_i _) (rfl)))))) ?_
  show xle _ (xev (K_M_comes z) (0, [(0, .ref a0), (1, .int p1), (2, .int p2), (3, .int p3), (4, .int p4)], [], h))
  refine xle_next (i := .aload_n 0) (x' := (1, [(0, .ref a0), (1, .int p1), (2, .int p2), (3, .int p3), (4, .int p4)], [.ref a0], h)) rfl rfl rfl ?_
  refine xle_getR (f := (6, 16, .array .int, 0)) rfl rfl rfl (fun r1 => ?_)
  refine xle_next (i := .iload_n 1) (x' := (5, [(0, .ref a0), (1, .int p1), (2, .int p2), (3, .int p3), (4, .int p4)], [.int p1, va_rf r1], h)) rfl rfl rfl ?_
  refine xle_next (i := .iconst 0) (x' := (6, [(0, .ref a0), (1, .int p1), (2, .int p2), (3, .int p3), (4, .int p4)], [.int (Int32.ofInt 0), .int p1, va_rf r1], h)) rfl rfl rfl ?_
  refine xle_some (fun r_ => (6, [(0, .ref a0), (1, .int p1), (2, .int p2), (3, .int p3), (4, .int p4)], [.int (Int32.ofInt 0), .int p1, va_rf r_], h)) (fun a2 => ?_)
  refine xle_iast rfl rfl (fun h3 => ?_)
  refine xle_next (i := .aload_n 0) (x' := (8, [(0, .ref a0), (1, .int p1), (2, .int p2), (3, .int p3), (4, .int p4)], [.ref a0], h3)) rfl rfl rfl ?_
  refine xle_getR (f := (6, 17, .array .int, 0)) rfl rfl rfl (fun r4 => ?_)
  refine xle_next (i := .iload_n 1) (x' := (12, [(0, .ref a0), (1, .int p1), (2, .int p2), (3, .int p3), (4, .int p4)], [.int p1, va_rf r4], h3)) rfl rfl rfl ?_
  refine xle_next (i := .iload_n 2) (x' := (13, [(0, .ref a0), (1, .int p1), (2, .int p2), (3, .int p3), (4, .int p4)], [.int p2, .int p1, va_rf r4], h3)) rfl rfl rfl ?_
  refine xle_some (fun r_ => (13, [(0, .ref a0), (1, .int p1), (2, .int p2), (3, .int p3), (4, .int p4)], [.int p2, .int p1, va_rf r_], h3)) (fun a5 => ?_)
  refine xle_iast rfl rfl (fun h6 => ?_)
  refine xle_next (i := .aload_n 0) (x' := (15, [(0, .ref a0), (1, .int p1), (2, .int p2), (3, .int p3), (4, .int p4)], [.ref a0], h6)) rfl rfl rfl ?_
  refine xle_getR (f := (6, 18, .array .int, 0)) rfl rfl rfl (fun r7 => ?_)
  refine xle_next (i := .iload_n 1) (x' := (19, [(0, .ref a0), (1, .int p1), (2, .int p2), (3, .int p3), (4, .int p4)], [.int p1, va_rf r7], h6)) rfl rfl rfl ?_
  refine xle_next (i := .iload_n 3) (x' := (20, [(0, .ref a0), (1, .int p1), (2, .int p2), (3, .int p3), (4, .int p4)], [.int p3, .int p1, va_rf r7], h6)) rfl rfl rfl ?_
  refine xle_some (fun r_ => (20, [(0, .ref a0), (1, .int p1), (2, .int p2), (3, .int p3), (4, .int p4)], [.int p3, .int p1, va_rf r_], h6)) (fun a8 => ?_)
  refine xle_iast rfl rfl (fun h9 => ?_)
  refine xle_next (i := .aload_n 0) (x' := (22, [(0, .ref a0), (1, .int p1), (2, .int p2), (3, .int p3), (4, .int p4)], [.ref a0], h9)) rfl rfl rfl ?_
  refine xle_getR (f := (6, 19, .array .int, 0)) rfl rfl rfl (fun r10 => ?_)
  refine xle_next (i := .iload_n 1) (x' := (26, [(0, .ref a0), (1, .int p1), (2, .int p2), (3, .int p3), (4, .int p4)], [.int p1, va_rf r10], h9)) rfl rfl rfl ?_
  refine xle_next (i := .iload 4) (x' := (28, [(0, .ref a0), (1, .int p1), (2, .int p2), (3, .int p3), (4, .int p4)], [.int p4, .int p1, va_rf r10], h9)) rfl rfl rfl ?_
  refine xle_some (fun r_ => (28, [(0, .ref a0), (1, .int p1), (2, .int p2), (3, .int p3), (4, .int p4)], [.int p4, .int p1, va_rf r_], h9)) (fun a11 => ?_)
  refine xle_iast rfl rfl (fun h12 => ?_)
  exact xle_end (i := .return_) rfl rfl rfl
noncomputable def B_M_waiting_6 (z : xzs) (a0 : Nat) (xv1 : Int32) (xv2 : Int32) (xv3 : Int32) (xv4 : Int32) (xv5 : Int32) (h : xH) : Option xR := xev (K_M_waiting z) (6, [(0, .ref a0), (1, .int xv1), (2, .int xv2), (3, .int xv3), (4, .int xv4), (5, .int xv5)], [], h)
noncomputable def B_M_waiting_34 (z : xzs) (a0 : Nat) (xv1 : Int32) (xv2 : Int32) (xv3 : Int32) (xv4 : Int32) (xv5 : Int32) (h : xH) : Option xR := xev (K_M_waiting z) (34, [(0, .ref a0), (1, .int xv1), (2, .int xv2), (3, .int xv3), (4, .int xv4), (5, .int xv5)], [], h)
noncomputable def B_M_waiting_49 (z : xzs) (a0 : Nat) (xv1 : Int32) (xv2 : Int32) (xv3 : Int32) (xv4 : Int32) (xv5 : Int32) (h : xH) : Option xR := xev (K_M_waiting z) (49, [(0, .ref a0), (1, .int xv1), (2, .int xv2), (3, .int xv3), (4, .int xv4), (5, .int xv5)], [], h)
noncomputable def B_M_waiting_50 (z : xzs) (a0 : Nat) (xv1 : Int32) (xv2 : Int32) (xv3 : Int32) (xv4 : Int32) (xv5 : Int32) (xs0 : Int32) (h : xH) : Option xR := xev (K_M_waiting z) (50, [(0, .ref a0), (1, .int xv1), (2, .int xv2), (3, .int xv3), (4, .int xv4), (5, .int xv5)], [.int xs0], h)
noncomputable def B_M_waiting_83 (z : xzs) (a0 : Nat) (xv1 : Int32) (xv2 : Int32) (xv3 : Int32) (xv4 : Int32) (xv5 : Int32) (h : xH) : Option xR := xev (K_M_waiting z) (83, [(0, .ref a0), (1, .int xv1), (2, .int xv2), (3, .int xv3), (4, .int xv4), (5, .int xv5)], [], h)
noncomputable def B_M_waiting_79 (z : xzs) (a0 : Nat) (xv1 : Int32) (xv2 : Int32) (xv3 : Int32) (xv5 : Int32) (h : xH) : Option xR := xev (K_M_waiting z) (79, [(0, .ref a0), (1, .int xv1), (2, .int xv2), (3, .int xv3), (5, .int xv5)], [], h)
noncomputable def D_M_waiting_0 (z : xzs) (a0 : Nat) (p1 : Int32) (p2 : Int32) (p3 : Int32) (h : xH) : Option xR :=
  B_M_waiting_6 z a0 p1 p2 p3 (Int32.ofInt 0) (Int32.ofInt 1) h
set_option maxRecDepth 20000 in
theorem E_M_waiting (z : xzs) (a0 : Nat) (p1 : Int32) (p2 : Int32) (p3 : Int32) (h : xH) : xle (D_M_waiting_0 z a0 p1 p2 p3 h) (xfun (K_M_waiting z) 7 [.ref a0, .int p1, .int p2, .int p3] h) := by
  unfold D_M_waiting_0
  refine xle_entry (Nat.le_of_ble_eq_true rfl) (xal_c (xca_a _) (xal_c (xca_i _) (xal_c (xca_i _) (xal_c (xca_i _) (rfl))))) ?_
  show xle _ (xev (K_M_waiting z) (0, [(0, .ref a0), (1, .int p1), (2, .int p2), (3, .int p3)], [], h))
  refine xle_next (i := .iconst 0) (x' := (1, [(0, .ref a0), (1, .int p1), (2, .int p2), (3, .int p3)], [.int (Int32.ofInt 0)], h)) rfl rfl rfl ?_
  refine xle_next (i := .istore 4) (x' := (3, [(0, .ref a0), (1, .int p1), (2, .int p2), (3, .int p3), (4, .int (Int32.ofInt 0))], [], h)) rfl rfl rfl ?_
  refine xle_next (i := .iconst 1) (x' := (4, [(0, .ref a0), (1, .int p1), (2, .int p2), (3, .int p3), (4, .int (Int32.ofInt 0))], [.int (Int32.ofInt 1)], h)) rfl rfl rfl ?_
  refine xle_next (i := .istore 5) (x' := (6, [(0, .ref a0), (1, .int p1), (2, .int p2), (3, .int p3), (4, .int (Int32.ofInt 0)), (5, .int (Int32.ofInt 1))], [], h)) rfl rfl rfl ?_
  exact xle_jump rfl
noncomputable def D_M_waiting_6 (z : xzs) (a0 : Nat) (xv1 : Int32) (xv2 : Int32) (xv3 : Int32) (xv4 : Int32) (xv5 : Int32) (h : xH) : Option xR :=
  if (Int32.ofInt 4) ≤ xv5 then
    some (.inl (some (.int xv4)), h)
  else
    (rdR h a0 6 15).bind fun r1 =>
    r1.bind fun a2 =>
    (rdA 0 h a2 xv5).bind fun x3 =>
    if x3 = xv2 then
      B_M_waiting_34 z a0 xv1 xv2 xv3 xv4 xv5 h
    else
      (rdR h a0 6 15).bind fun r4 =>
      r4.bind fun a5 =>
      (rdA 0 h a5 xv5).bind fun x6 =>
      if ¬ x6 = xv3 then
        B_M_waiting_49 z a0 xv1 xv2 xv3 xv4 xv5 h
      else
        B_M_waiting_34 z a0 xv1 xv2 xv3 xv4 xv5 h
set_option maxRecDepth 20000 in
theorem E_M_waiting_6 (z : xzs) (a0 : Nat) (xv1 : Int32) (xv2 : Int32) (xv3 : Int32) (xv4 : Int32) (xv5 : Int32) (h : xH) : xle (D_M_waiting_6 z a0 xv1 xv2 xv3 xv4 xv5 h) (B_M_waiting_6 z a0 xv1 xv2 xv3 xv4 xv5 h) := by
  unfold D_M_waiting_6 B_M_waiting_6
  refine xle_next (i := .iload 5) (x' := (8, [(0, .ref a0), (1, .int xv1), (2, .int xv2), (3, .int xv3), (4, .int xv4), (5, .int xv5)], [.int xv5], h)) rfl rfl rfl ?_
  refine xle_next (i := .iconst 4) (x' := (9, [(0, .ref a0), (1, .int xv1), (2, .int xv2), (3, .int xv3), (4, .int xv4), (5, .int xv5)], [.int (Int32.ofInt 4), .int xv5], h)) rfl rfl rfl ?_
  refine xle_icmp (cd := .ge) (q := 89) rfl rfl rfl xc_ge (fun _ => ?_) (fun _ => ?_)
  · refine xle_next (i := .iload 4) (x' := (91, [(0, .ref a0), (1, .int xv1), (2, .int xv2), (3, .int xv3), (4, .int xv4), (5, .int xv5)], [.int xv4], h)) rfl rfl rfl ?_
    exact xle_end (i := .ireturn) rfl rfl rfl
  · refine xle_next (i := .aload_n 0) (x' := (13, [(0, .ref a0), (1, .int xv1), (2, .int xv2), (3, .int xv3), (4, .int xv4), (5, .int xv5)], [.ref a0], h)) rfl rfl rfl ?_
    refine xle_getR (f := (6, 15, .array .int, 0)) rfl rfl rfl (fun r1 => ?_)
    refine xle_next (i := .iload 5) (x' := (18, [(0, .ref a0), (1, .int xv1), (2, .int xv2), (3, .int xv3), (4, .int xv4), (5, .int xv5)], [.int xv5, va_rf r1], h)) rfl rfl rfl ?_
    refine xle_some (fun r_ => (18, [(0, .ref a0), (1, .int xv1), (2, .int xv2), (3, .int xv3), (4, .int xv4), (5, .int xv5)], [.int xv5, va_rf r_], h)) (fun a2 => ?_)
    refine xle_iald rfl rfl (fun x3 => ?_)
    refine xle_next (i := .iload_n 2) (x' := (20, [(0, .ref a0), (1, .int xv1), (2, .int xv2), (3, .int xv3), (4, .int xv4), (5, .int xv5)], [.int xv2, .int x3], h)) rfl rfl rfl ?_
    refine xle_icmp (cd := .eq) (q := 34) rfl rfl rfl xc_eq (fun _ => ?_) (fun _ => ?_)
    · exact xle_jump rfl
    · refine xle_next (i := .aload_n 0) (x' := (24, [(0, .ref a0), (1, .int xv1), (2, .int xv2), (3, .int xv3), (4, .int xv4), (5, .int xv5)], [.ref a0], h)) rfl rfl rfl ?_
      refine xle_getR (f := (6, 15, .array .int, 0)) rfl rfl rfl (fun r4 => ?_)
      refine xle_next (i := .iload 5) (x' := (29, [(0, .ref a0), (1, .int xv1), (2, .int xv2), (3, .int xv3), (4, .int xv4), (5, .int xv5)], [.int xv5, va_rf r4], h)) rfl rfl rfl ?_
      refine xle_some (fun r_ => (29, [(0, .ref a0), (1, .int xv1), (2, .int xv2), (3, .int xv3), (4, .int xv4), (5, .int xv5)], [.int xv5, va_rf r_], h)) (fun a5 => ?_)
      refine xle_iald rfl rfl (fun x6 => ?_)
      refine xle_next (i := .iload_n 3) (x' := (31, [(0, .ref a0), (1, .int xv1), (2, .int xv2), (3, .int xv3), (4, .int xv4), (5, .int xv5)], [.int xv3, .int x6], h)) rfl rfl rfl ?_
      refine xle_icmp (cd := .ne) (q := 49) rfl rfl rfl xc_ne (fun _ => ?_) (fun _ => ?_)
      · exact xle_jump rfl
      · exact xle_jump rfl
noncomputable def D_M_waiting_34 (z : xzs) (a0 : Nat) (xv1 : Int32) (xv2 : Int32) (xv3 : Int32) (xv4 : Int32) (xv5 : Int32) (h : xH) : Option xR :=
  (rdR h a0 6 22).bind fun r7 =>
  r7.bind fun a8 =>
  (rdA 0 h a8 xv5).bind fun x9 =>
  if ¬ x9 = xv1 then
    B_M_waiting_49 z a0 xv1 xv2 xv3 xv4 xv5 h
  else
    B_M_waiting_50 z a0 xv1 xv2 xv3 xv4 xv5 (Int32.ofInt 1) h
set_option maxRecDepth 20000 in
theorem E_M_waiting_34 (z : xzs) (a0 : Nat) (xv1 : Int32) (xv2 : Int32) (xv3 : Int32) (xv4 : Int32) (xv5 : Int32) (h : xH) : xle (D_M_waiting_34 z a0 xv1 xv2 xv3 xv4 xv5 h) (B_M_waiting_34 z a0 xv1 xv2 xv3 xv4 xv5 h) := by
  unfold D_M_waiting_34 B_M_waiting_34
  refine xle_next (i := .aload_n 0) (x' := (35, [(0, .ref a0), (1, .int xv1), (2, .int xv2), (3, .int xv3), (4, .int xv4), (5, .int xv5)], [.ref a0], h)) rfl rfl rfl ?_
  refine xle_getR (f := (6, 22, .array .int, 0)) rfl rfl rfl (fun r7 => ?_)
  refine xle_next (i := .iload 5) (x' := (40, [(0, .ref a0), (1, .int xv1), (2, .int xv2), (3, .int xv3), (4, .int xv4), (5, .int xv5)], [.int xv5, va_rf r7], h)) rfl rfl rfl ?_
  refine xle_some (fun r_ => (40, [(0, .ref a0), (1, .int xv1), (2, .int xv2), (3, .int xv3), (4, .int xv4), (5, .int xv5)], [.int xv5, va_rf r_], h)) (fun a8 => ?_)
  refine xle_iald rfl rfl (fun x9 => ?_)
  refine xle_next (i := .iload_n 1) (x' := (42, [(0, .ref a0), (1, .int xv1), (2, .int xv2), (3, .int xv3), (4, .int xv4), (5, .int xv5)], [.int xv1, .int x9], h)) rfl rfl rfl ?_
  refine xle_icmp (cd := .ne) (q := 49) rfl rfl rfl xc_ne (fun _ => ?_) (fun _ => ?_)
  · exact xle_jump rfl
  · refine xle_next (i := .iconst 1) (x' := (46, [(0, .ref a0), (1, .int xv1), (2, .int xv2), (3, .int xv3), (4, .int xv4), (5, .int xv5)], [.int (Int32.ofInt 1)], h)) rfl rfl rfl ?_
    refine xle_next (i := .goto 4) (x' := (50, [(0, .ref a0), (1, .int xv1), (2, .int xv2), (3, .int xv3), (4, .int xv4), (5, .int xv5)], [.int (Int32.ofInt 1)], h)) rfl rfl rfl ?_
    exact xle_jump rfl
noncomputable def D_M_waiting_49 (z : xzs) (a0 : Nat) (xv1 : Int32) (xv2 : Int32) (xv3 : Int32) (xv4 : Int32) (xv5 : Int32) (h : xH) : Option xR :=
  B_M_waiting_50 z a0 xv1 xv2 xv3 xv4 xv5 (Int32.ofInt 0) h
set_option maxRecDepth 20000 in
theorem E_M_waiting_49 (z : xzs) (a0 : Nat) (xv1 : Int32) (xv2 : Int32) (xv3 : Int32) (xv4 : Int32) (xv5 : Int32) (h : xH) : xle (D_M_waiting_49 z a0 xv1 xv2 xv3 xv4 xv5 h) (B_M_waiting_49 z a0 xv1 xv2 xv3 xv4 xv5 h) := by
  unfold D_M_waiting_49 B_M_waiting_49
  refine xle_next (i := .iconst 0) (x' := (50, [(0, .ref a0), (1, .int xv1), (2, .int xv2), (3, .int xv3), (4, .int xv4), (5, .int xv5)], [.int (Int32.ofInt 0)], h)) rfl rfl rfl ?_
  exact xle_jump rfl
noncomputable def D_M_waiting_50 (z : xzs) (a0 : Nat) (xv1 : Int32) (xv2 : Int32) (xv3 : Int32) (xv4 : Int32) (xv5 : Int32) (xs0 : Int32) (h : xH) : Option xR :=
  if xs0 = 0 then
    B_M_waiting_83 z a0 xv1 xv2 xv3 xv4 xv5 h
  else
    if xv4 = 0 then
      B_M_waiting_79 z a0 xv1 xv2 xv3 xv5 h
    else
      (rdR h a0 6 23).bind fun r10 =>
      r10.bind fun a11 =>
      (rdA 0 h a11 xv5).bind fun x12 =>
      (rdR h a0 6 23).bind fun r13 =>
      r13.bind fun a14 =>
      (rdA 0 h a14 xv4).bind fun x15 =>
      if x15 ≤ x12 then
        B_M_waiting_83 z a0 xv1 xv2 xv3 xv4 xv5 h
      else
        B_M_waiting_79 z a0 xv1 xv2 xv3 xv5 h
set_option maxRecDepth 20000 in
theorem E_M_waiting_50 (z : xzs) (a0 : Nat) (xv1 : Int32) (xv2 : Int32) (xv3 : Int32) (xv4 : Int32) (xv5 : Int32) (xs0 : Int32) (h : xH) : xle (D_M_waiting_50 z a0 xv1 xv2 xv3 xv4 xv5 xs0 h) (B_M_waiting_50 z a0 xv1 xv2 xv3 xv4 xv5 xs0 h) := by
  unfold D_M_waiting_50 B_M_waiting_50
  refine xle_next (i := .istore 6) (x' := (52, [(0, .ref a0), (1, .int xv1), (2, .int xv2), (3, .int xv3), (4, .int xv4), (5, .int xv5), (6, .int xs0)], [], h)) rfl rfl rfl ?_
  refine xle_next (i := .iload 6) (x' := (54, [(0, .ref a0), (1, .int xv1), (2, .int xv2), (3, .int xv3), (4, .int xv4), (5, .int xv5), (6, .int xs0)], [.int xs0], h)) rfl rfl rfl ?_
  refine xle_if (cd := .eq) (q := 83) rfl rfl rfl xc_eq (fun _ => ?_) (fun _ => ?_)
  · exact xle_jump rfl
  · refine xle_next (i := .iload 4) (x' := (59, [(0, .ref a0), (1, .int xv1), (2, .int xv2), (3, .int xv3), (4, .int xv4), (5, .int xv5), (6, .int xs0)], [.int xv4], h)) rfl rfl rfl ?_
    refine xle_if (cd := .eq) (q := 79) rfl rfl rfl xc_eq (fun _ => ?_) (fun _ => ?_)
    · exact xle_jump rfl
    · refine xle_next (i := .aload_n 0) (x' := (63, [(0, .ref a0), (1, .int xv1), (2, .int xv2), (3, .int xv3), (4, .int xv4), (5, .int xv5), (6, .int xs0)], [.ref a0], h)) rfl rfl rfl ?_
      refine xle_getR (f := (6, 23, .array .int, 0)) rfl rfl rfl (fun r10 => ?_)
      refine xle_next (i := .iload 5) (x' := (68, [(0, .ref a0), (1, .int xv1), (2, .int xv2), (3, .int xv3), (4, .int xv4), (5, .int xv5), (6, .int xs0)], [.int xv5, va_rf r10], h)) rfl rfl rfl ?_
      refine xle_some (fun r_ => (68, [(0, .ref a0), (1, .int xv1), (2, .int xv2), (3, .int xv3), (4, .int xv4), (5, .int xv5), (6, .int xs0)], [.int xv5, va_rf r_], h)) (fun a11 => ?_)
      refine xle_iald rfl rfl (fun x12 => ?_)
      refine xle_next (i := .aload_n 0) (x' := (70, [(0, .ref a0), (1, .int xv1), (2, .int xv2), (3, .int xv3), (4, .int xv4), (5, .int xv5), (6, .int xs0)], [.ref a0, .int x12], h)) rfl rfl rfl ?_
      refine xle_getR (f := (6, 23, .array .int, 0)) rfl rfl rfl (fun r13 => ?_)
      refine xle_next (i := .iload 4) (x' := (75, [(0, .ref a0), (1, .int xv1), (2, .int xv2), (3, .int xv3), (4, .int xv4), (5, .int xv5), (6, .int xs0)], [.int xv4, va_rf r13, .int x12], h)) rfl rfl rfl ?_
      refine xle_some (fun r_ => (75, [(0, .ref a0), (1, .int xv1), (2, .int xv2), (3, .int xv3), (4, .int xv4), (5, .int xv5), (6, .int xs0)], [.int xv4, va_rf r_, .int x12], h)) (fun a14 => ?_)
      refine xle_iald rfl rfl (fun x15 => ?_)
      refine xle_icmp (cd := .ge) (q := 83) rfl rfl rfl xc_ge (fun _ => ?_) (fun _ => ?_)
      · exact xle_jump rfl
      · exact xle_jump rfl
noncomputable def D_M_waiting_83 (z : xzs) (a0 : Nat) (xv1 : Int32) (xv2 : Int32) (xv3 : Int32) (xv4 : Int32) (xv5 : Int32) (h : xH) : Option xR :=
  B_M_waiting_6 z a0 xv1 xv2 xv3 xv4 (xv5 + Int32.ofInt 1) h
set_option maxRecDepth 20000 in
theorem E_M_waiting_83 (z : xzs) (a0 : Nat) (xv1 : Int32) (xv2 : Int32) (xv3 : Int32) (xv4 : Int32) (xv5 : Int32) (h : xH) : xle (D_M_waiting_83 z a0 xv1 xv2 xv3 xv4 xv5 h) (B_M_waiting_83 z a0 xv1 xv2 xv3 xv4 xv5 h) := by
  unfold D_M_waiting_83 B_M_waiting_83
  refine xle_next (i := .iinc 5 1) (x' := (86, [(0, .ref a0), (1, .int xv1), (2, .int xv2), (3, .int xv3), (4, .int xv4), (5, .int (xv5 + Int32.ofInt 1))], [], h)) rfl rfl rfl ?_
  refine xle_next (i := .goto (-80)) (x' := (6, [(0, .ref a0), (1, .int xv1), (2, .int xv2), (3, .int xv3), (4, .int xv4), (5, .int (xv5 + Int32.ofInt 1))], [], h)) rfl rfl rfl ?_
  exact xle_jump rfl
noncomputable def D_M_waiting_79 (z : xzs) (a0 : Nat) (xv1 : Int32) (xv2 : Int32) (xv3 : Int32) (xv5 : Int32) (h : xH) : Option xR :=
  B_M_waiting_83 z a0 xv1 xv2 xv3 xv5 xv5 h
set_option maxRecDepth 20000 in
theorem E_M_waiting_79 (z : xzs) (a0 : Nat) (xv1 : Int32) (xv2 : Int32) (xv3 : Int32) (xv5 : Int32) (h : xH) : xle (D_M_waiting_79 z a0 xv1 xv2 xv3 xv5 h) (B_M_waiting_79 z a0 xv1 xv2 xv3 xv5 h) := by
  unfold D_M_waiting_79 B_M_waiting_79
  refine xle_next (i := .iload 5) (x' := (81, [(0, .ref a0), (1, .int xv1), (2, .int xv2), (3, .int xv3), (5, .int xv5)], [.int xv5], h)) rfl rfl rfl ?_
  refine xle_next (i := .istore 4) (x' := (83, [(0, .ref a0), (1, .int xv1), (2, .int xv2), (3, .int xv3), (4, .int xv5), (5, .int xv5)], [], h)) rfl rfl rfl ?_
  exact xle_jump rfl
noncomputable def D_M_waits_0 (z : xzs) (a0 : Nat) (p1 : Int32) (p2 : Int32) (p3 : Int32) (h : xH) : Option xR :=
  (rdR h a0 6 15).bind fun r1 =>
  r1.bind fun a2 =>
  (wrI h a2 p1 p2).bind fun h3 =>
  (rdR h3 a0 6 22).bind fun r4 =>
  r4.bind fun a5 =>
  (wrI h3 a5 p1 p3).bind fun h6 =>
  (rdI h6 a0 6 31).bind fun x7 =>
  (xwr h6 a0 6 31 (.int (x7 + (Int32.ofInt 1)))).bind fun h8 =>
  (rdR h8 a0 6 23).bind fun r9 =>
  (rdI h8 a0 6 31).bind fun x10 =>
  r9.bind fun a11 =>
  (wrI h8 a11 p1 x10).bind fun h12 =>
  some (.inl none, h12)
set_option maxRecDepth 20000 in
theorem E_M_waits (z : xzs) (a0 : Nat) (p1 : Int32) (p2 : Int32) (p3 : Int32) (h : xH) : xle (D_M_waits_0 z a0 p1 p2 p3 h) (xfun (K_M_waits z) 4 [.ref a0, .int p1, .int p2, .int p3] h) := by
  unfold D_M_waits_0
  refine xle_entry (Nat.le_of_ble_eq_true rfl) (xal_c (xca_a _) (xal_c (xca_i _) (xal_c (xca_i _) (xal_c (xca_i _) (rfl))))) ?_
  show xle _ (xev (K_M_waits z) (0, [(0, .ref a0), (1, .int p1), (2, .int p2), (3, .int p3)], [], h))
  refine xle_next (i := .aload_n 0) (x' := (1, [(0, .ref a0), (1, .int p1), (2, .int p2), (3, .int p3)], [.ref a0], h)) rfl rfl rfl ?_
  refine xle_getR (f := (6, 15, .array .int, 0)) rfl rfl rfl (fun r1 => ?_)
  refine xle_next (i := .iload_n 1) (x' := (5, [(0, .ref a0), (1, .int p1), (2, .int p2), (3, .int p3)], [.int p1, va_rf r1], h)) rfl rfl rfl ?_
  refine xle_next (i := .iload_n 2) (x' := (6, [(0, .ref a0), (1, .int p1), (2, .int p2), (3, .int p3)], [.int p2, .int p1, va_rf r1], h)) rfl rfl rfl ?_
  refine xle_some (fun r_ => (6, [(0, .ref a0), (1, .int p1), (2, .int p2), (3, .int p3)], [.int p2, .int p1, va_rf r_], h)) (fun a2 => ?_)
  refine xle_iast rfl rfl (fun h3 => ?_)
  refine xle_next (i := .aload_n 0) (x' := (8, [(0, .ref a0), (1, .int p1), (2, .int p2), (3, .int p3)], [.ref a0], h3)) rfl rfl rfl ?_
  refine xle_getR (f := (6, 22, .array .int, 0)) rfl rfl rfl (fun r4 => ?_)
  refine xle_next (i := .iload_n 1) (x' := (12, [(0, .ref a0), (1, .int p1), (2, .int p2), (3, .int p3)], [.int p1, va_rf r4], h3)) rfl rfl rfl ?_
  refine xle_next (i := .iload_n 3) (x' := (13, [(0, .ref a0), (1, .int p1), (2, .int p2), (3, .int p3)], [.int p3, .int p1, va_rf r4], h3)) rfl rfl rfl ?_
  refine xle_some (fun r_ => (13, [(0, .ref a0), (1, .int p1), (2, .int p2), (3, .int p3)], [.int p3, .int p1, va_rf r_], h3)) (fun a5 => ?_)
  refine xle_iast rfl rfl (fun h6 => ?_)
  refine xle_next (i := .aload_n 0) (x' := (15, [(0, .ref a0), (1, .int p1), (2, .int p2), (3, .int p3)], [.ref a0], h6)) rfl rfl rfl ?_
  refine xle_next (i := .dup) (x' := (16, [(0, .ref a0), (1, .int p1), (2, .int p2), (3, .int p3)], [.ref a0, .ref a0], h6)) rfl rfl rfl ?_
  refine xle_getI (f := (6, 31, .int, 1)) rfl rfl rfl (fun x7 => ?_)
  refine xle_next (i := .iconst 1) (x' := (20, [(0, .ref a0), (1, .int p1), (2, .int p2), (3, .int p3)], [.int (Int32.ofInt 1), .int x7, .ref a0], h6)) rfl rfl rfl ?_
  refine xle_next (i := .iadd) (x' := (21, [(0, .ref a0), (1, .int p1), (2, .int p2), (3, .int p3)], [.int (x7 + (Int32.ofInt 1)), .ref a0], h6)) rfl rfl rfl ?_
  refine xle_put (v := .int (x7 + (Int32.ofInt 1))) (f := (6, 31, .int, 1)) rfl rfl rfl ⟨by decide, rfl, rfl⟩ (fun h8 => ?_)
  refine xle_next (i := .aload_n 0) (x' := (25, [(0, .ref a0), (1, .int p1), (2, .int p2), (3, .int p3)], [.ref a0], h8)) rfl rfl rfl ?_
  refine xle_getR (f := (6, 23, .array .int, 0)) rfl rfl rfl (fun r9 => ?_)
  refine xle_next (i := .iload_n 1) (x' := (29, [(0, .ref a0), (1, .int p1), (2, .int p2), (3, .int p3)], [.int p1, va_rf r9], h8)) rfl rfl rfl ?_
  refine xle_next (i := .aload_n 0) (x' := (30, [(0, .ref a0), (1, .int p1), (2, .int p2), (3, .int p3)], [.ref a0, .int p1, va_rf r9], h8)) rfl rfl rfl ?_
  refine xle_getI (f := (6, 31, .int, 1)) rfl rfl rfl (fun x10 => ?_)
  refine xle_some (fun r_ => (33, [(0, .ref a0), (1, .int p1), (2, .int p2), (3, .int p3)], [.int x10, .int p1, va_rf r_], h8)) (fun a11 => ?_)
  refine xle_iast rfl rfl (fun h12 => ?_)
  exact xle_end (i := .return_) rfl rfl rfl
noncomputable def B_M_place_53 (z : xzs)  (h : xH) : Option xR := xev (K_M_place z) (53, [], [], h)
noncomputable def B_M_place_71 (z : xzs) (xs0 : Int32) (h : xH) : Option xR := xev (K_M_place z) (71, [], [.int xs0], h)
noncomputable def D_M_place_0 (z : xzs) (a0 : Nat) (p1 : Int32) (p2 : Int32) (h : xH) : Option xR :=
  if ((Int8.ofInt 8).toInt32) ≤ p2 then
    (rdR h a0 6 14).bind fun r1 =>
    r1.bind fun a2 =>
    (rdA 0 h a2 (((((Int8.ofInt 8).toInt32) * ((Int32.ofInt 1) + p1)) + (p2 / ((Int8.ofInt 8).toInt32))) - (Int32.ofInt 1))).bind fun x3 =>
    if x3 = 0 then
      B_M_place_53 z h
    else
      (rdR h a0 6 1).bind fun r4 =>
      (rdR h a0 6 8).bind fun r5 =>
      r5.bind fun a6 =>
      (rdA 0 h a6 x3).bind fun x7 =>
      r4.bind fun a8 =>
      (rdA 0 h a8 x7).bind fun x9 =>
      if x9 = (Int32.ofInt 3) then
        (rdR h a0 6 8).bind fun r10 =>
        r10.bind fun a11 =>
        (rdA 0 h a11 x3).bind fun x12 =>
        B_M_place_71 z ((((Int8.ofInt 8).toInt32) * x12) + (p2 - p2 / ((Int8.ofInt 8).toInt32) * ((Int8.ofInt 8).toInt32))) h
      else
        B_M_place_53 z h
  else
    some (.inl (some (.int ((((Int8.ofInt 8).toInt32) * ((Int32.ofInt 1) + p1)) + p2))), h)
set_option maxRecDepth 20000 in
theorem E_M_place (z : xzs) (a0 : Nat) (p1 : Int32) (p2 : Int32) (h : xH) : xle (D_M_place_0 z a0 p1 p2 h) (xfun (K_M_place z) 4 [.ref a0, .int p1, .int p2] h) := by
  unfold D_M_place_0
  refine xle_entry (Nat.le_of_ble_eq_true rfl) (xal_c (xca_a _) (xal_c (xca_i _) (xal_c (xca_i _) (rfl)))) ?_
  show xle _ (xev (K_M_place z) (0, [(0, .ref a0), (1, .int p1), (2, .int p2)], [], h))
  refine xle_next (i := .iload_n 2) (x' := (1, [(0, .ref a0), (1, .int p1), (2, .int p2)], [.int p2], h)) rfl rfl rfl ?_
  refine xle_next (i := .bipush 8) (x' := (3, [(0, .ref a0), (1, .int p1), (2, .int p2)], [.int ((Int8.ofInt 8).toInt32), .int p2], h)) rfl rfl rfl ?_
  refine xle_icmp (cd := .ge) (q := 15) rfl rfl rfl xc_ge (fun _ => ?_) (fun _ => ?_)
  · refine xle_next (i := .aload_n 0) (x' := (16, [(0, .ref a0), (1, .int p1), (2, .int p2)], [.ref a0], h)) rfl rfl rfl ?_
    refine xle_getR (f := (6, 14, .array .int, 0)) rfl rfl rfl (fun r1 => ?_)
    refine xle_next (i := .bipush 8) (x' := (21, [(0, .ref a0), (1, .int p1), (2, .int p2)], [.int ((Int8.ofInt 8).toInt32), va_rf r1], h)) rfl rfl rfl ?_
    refine xle_next (i := .iconst 1) (x' := (22, [(0, .ref a0), (1, .int p1), (2, .int p2)], [.int (Int32.ofInt 1), .int ((Int8.ofInt 8).toInt32), va_rf r1], h)) rfl rfl rfl ?_
    refine xle_next (i := .iload_n 1) (x' := (23, [(0, .ref a0), (1, .int p1), (2, .int p2)], [.int p1, .int (Int32.ofInt 1), .int ((Int8.ofInt 8).toInt32), va_rf r1], h)) rfl rfl rfl ?_
    refine xle_next (i := .iadd) (x' := (24, [(0, .ref a0), (1, .int p1), (2, .int p2)], [.int ((Int32.ofInt 1) + p1), .int ((Int8.ofInt 8).toInt32), va_rf r1], h)) rfl rfl rfl ?_
    refine xle_next (i := .imul) (x' := (25, [(0, .ref a0), (1, .int p1), (2, .int p2)], [.int (((Int8.ofInt 8).toInt32) * ((Int32.ofInt 1) + p1)), va_rf r1], h)) rfl rfl rfl ?_
    refine xle_next (i := .iload_n 2) (x' := (26, [(0, .ref a0), (1, .int p1), (2, .int p2)], [.int p2, .int (((Int8.ofInt 8).toInt32) * ((Int32.ofInt 1) + p1)), va_rf r1], h)) rfl rfl rfl ?_
    refine xle_next (i := .bipush 8) (x' := (28, [(0, .ref a0), (1, .int p1), (2, .int p2)], [.int ((Int8.ofInt 8).toInt32), .int p2, .int (((Int8.ofInt 8).toInt32) * ((Int32.ofInt 1) + p1)), va_rf r1], h)) rfl rfl rfl ?_
    refine xle_next (i := .idiv) (x' := (29, [(0, .ref a0), (1, .int p1), (2, .int p2)], [.int (p2 / ((Int8.ofInt 8).toInt32)), .int (((Int8.ofInt 8).toInt32) * ((Int32.ofInt 1) + p1)), va_rf r1], h)) rfl rfl rfl ?_
    refine xle_next (i := .iadd) (x' := (30, [(0, .ref a0), (1, .int p1), (2, .int p2)], [.int ((((Int8.ofInt 8).toInt32) * ((Int32.ofInt 1) + p1)) + (p2 / ((Int8.ofInt 8).toInt32))), va_rf r1], h)) rfl rfl rfl ?_
    refine xle_next (i := .iconst 1) (x' := (31, [(0, .ref a0), (1, .int p1), (2, .int p2)], [.int (Int32.ofInt 1), .int ((((Int8.ofInt 8).toInt32) * ((Int32.ofInt 1) + p1)) + (p2 / ((Int8.ofInt 8).toInt32))), va_rf r1], h)) rfl rfl rfl ?_
    refine xle_next (i := .isub) (x' := (32, [(0, .ref a0), (1, .int p1), (2, .int p2)], [.int (((((Int8.ofInt 8).toInt32) * ((Int32.ofInt 1) + p1)) + (p2 / ((Int8.ofInt 8).toInt32))) - (Int32.ofInt 1)), va_rf r1], h)) rfl rfl rfl ?_
    refine xle_some (fun r_ => (32, [(0, .ref a0), (1, .int p1), (2, .int p2)], [.int (((((Int8.ofInt 8).toInt32) * ((Int32.ofInt 1) + p1)) + (p2 / ((Int8.ofInt 8).toInt32))) - (Int32.ofInt 1)), va_rf r_], h)) (fun a2 => ?_)
    refine xle_iald rfl rfl (fun x3 => ?_)
    refine xle_next (i := .istore_n 3) (x' := (34, [(0, .ref a0), (1, .int p1), (2, .int p2), (3, .int x3)], [], h)) rfl rfl rfl ?_
    refine xle_next (i := .iload_n 3) (x' := (35, [(0, .ref a0), (1, .int p1), (2, .int p2), (3, .int x3)], [.int x3], h)) rfl rfl rfl ?_
    refine xle_if (cd := .eq) (q := 53) rfl rfl rfl xc_eq (fun _ => ?_) (fun _ => ?_)
    · exact xle_jump rfl
    · refine xle_next (i := .aload_n 0) (x' := (39, [(0, .ref a0), (1, .int p1), (2, .int p2), (3, .int x3)], [.ref a0], h)) rfl rfl rfl ?_
      refine xle_getR (f := (6, 1, .array .int, 0)) rfl rfl rfl (fun r4 => ?_)
      refine xle_next (i := .aload_n 0) (x' := (43, [(0, .ref a0), (1, .int p1), (2, .int p2), (3, .int x3)], [.ref a0, va_rf r4], h)) rfl rfl rfl ?_
      refine xle_getR (f := (6, 8, .array .int, 0)) rfl rfl rfl (fun r5 => ?_)
      refine xle_next (i := .iload_n 3) (x' := (47, [(0, .ref a0), (1, .int p1), (2, .int p2), (3, .int x3)], [.int x3, va_rf r5, va_rf r4], h)) rfl rfl rfl ?_
      refine xle_some (fun r_ => (47, [(0, .ref a0), (1, .int p1), (2, .int p2), (3, .int x3)], [.int x3, va_rf r_, va_rf r4], h)) (fun a6 => ?_)
      refine xle_iald rfl rfl (fun x7 => ?_)
      refine xle_some (fun r_ => (48, [(0, .ref a0), (1, .int p1), (2, .int p2), (3, .int x3)], [.int x7, va_rf r_], h)) (fun a8 => ?_)
      refine xle_iald rfl rfl (fun x9 => ?_)
      refine xle_next (i := .iconst 3) (x' := (50, [(0, .ref a0), (1, .int p1), (2, .int p2), (3, .int x3)], [.int (Int32.ofInt 3), .int x9], h)) rfl rfl rfl ?_
      refine xle_icmp (cd := .eq) (q := 57) rfl rfl rfl xc_eq (fun _ => ?_) (fun _ => ?_)
      · refine xle_next (i := .bipush 8) (x' := (59, [(0, .ref a0), (1, .int p1), (2, .int p2), (3, .int x3)], [.int ((Int8.ofInt 8).toInt32)], h)) rfl rfl rfl ?_
        refine xle_next (i := .aload_n 0) (x' := (60, [(0, .ref a0), (1, .int p1), (2, .int p2), (3, .int x3)], [.ref a0, .int ((Int8.ofInt 8).toInt32)], h)) rfl rfl rfl ?_
        refine xle_getR (f := (6, 8, .array .int, 0)) rfl rfl rfl (fun r10 => ?_)
        refine xle_next (i := .iload_n 3) (x' := (64, [(0, .ref a0), (1, .int p1), (2, .int p2), (3, .int x3)], [.int x3, va_rf r10, .int ((Int8.ofInt 8).toInt32)], h)) rfl rfl rfl ?_
        refine xle_some (fun r_ => (64, [(0, .ref a0), (1, .int p1), (2, .int p2), (3, .int x3)], [.int x3, va_rf r_, .int ((Int8.ofInt 8).toInt32)], h)) (fun a11 => ?_)
        refine xle_iald rfl rfl (fun x12 => ?_)
        refine xle_next (i := .imul) (x' := (66, [(0, .ref a0), (1, .int p1), (2, .int p2), (3, .int x3)], [.int (((Int8.ofInt 8).toInt32) * x12)], h)) rfl rfl rfl ?_
        refine xle_next (i := .iload_n 2) (x' := (67, [(0, .ref a0), (1, .int p1), (2, .int p2), (3, .int x3)], [.int p2, .int (((Int8.ofInt 8).toInt32) * x12)], h)) rfl rfl rfl ?_
        refine xle_next (i := .bipush 8) (x' := (69, [(0, .ref a0), (1, .int p1), (2, .int p2), (3, .int x3)], [.int ((Int8.ofInt 8).toInt32), .int p2, .int (((Int8.ofInt 8).toInt32) * x12)], h)) rfl rfl rfl ?_
        refine xle_next (i := .irem) (x' := (70, [(0, .ref a0), (1, .int p1), (2, .int p2), (3, .int x3)], [.int (p2 - p2 / ((Int8.ofInt 8).toInt32) * ((Int8.ofInt 8).toInt32)), .int (((Int8.ofInt 8).toInt32) * x12)], h)) rfl rfl rfl ?_
        refine xle_next (i := .iadd) (x' := (71, [(0, .ref a0), (1, .int p1), (2, .int p2), (3, .int x3)], [.int ((((Int8.ofInt 8).toInt32) * x12) + (p2 - p2 / ((Int8.ofInt 8).toInt32) * ((Int8.ofInt 8).toInt32)))], h)) rfl rfl rfl ?_
        exact xle_jump rfl
      · exact xle_jump rfl
  · refine xle_next (i := .bipush 8) (x' := (8, [(0, .ref a0), (1, .int p1), (2, .int p2)], [.int ((Int8.ofInt 8).toInt32)], h)) rfl rfl rfl ?_
    refine xle_next (i := .iconst 1) (x' := (9, [(0, .ref a0), (1, .int p1), (2, .int p2)], [.int (Int32.ofInt 1), .int ((Int8.ofInt 8).toInt32)], h)) rfl rfl rfl ?_
    refine xle_next (i := .iload_n 1) (x' := (10, [(0, .ref a0), (1, .int p1), (2, .int p2)], [.int p1, .int (Int32.ofInt 1), .int ((Int8.ofInt 8).toInt32)], h)) rfl rfl rfl ?_
    refine xle_next (i := .iadd) (x' := (11, [(0, .ref a0), (1, .int p1), (2, .int p2)], [.int ((Int32.ofInt 1) + p1), .int ((Int8.ofInt 8).toInt32)], h)) rfl rfl rfl ?_
    refine xle_next (i := .imul) (x' := (12, [(0, .ref a0), (1, .int p1), (2, .int p2)], [.int (((Int8.ofInt 8).toInt32) * ((Int32.ofInt 1) + p1))], h)) rfl rfl rfl ?_
    refine xle_next (i := .iload_n 2) (x' := (13, [(0, .ref a0), (1, .int p1), (2, .int p2)], [.int p2, .int (((Int8.ofInt 8).toInt32) * ((Int32.ofInt 1) + p1))], h)) rfl rfl rfl ?_
    refine xle_next (i := .iadd) (x' := (14, [(0, .ref a0), (1, .int p1), (2, .int p2)], [.int ((((Int8.ofInt 8).toInt32) * ((Int32.ofInt 1) + p1)) + p2)], h)) rfl rfl rfl ?_
    exact xle_end (i := .ireturn) rfl rfl rfl
noncomputable def D_M_place_53 (z : xzs)  (h : xH) : Option xR :=
  B_M_place_71 z (Int32.ofInt (-1)) h
set_option maxRecDepth 20000 in
theorem E_M_place_53 (z : xzs)  (h : xH) : xle (D_M_place_53 z  h) (B_M_place_53 z  h) := by
  unfold D_M_place_53 B_M_place_53
  refine xle_next (i := .iconst (-1)) (x' := (54, [], [.int (Int32.ofInt (-1))], h)) rfl rfl rfl ?_
  refine xle_next (i := .goto 17) (x' := (71, [], [.int (Int32.ofInt (-1))], h)) rfl rfl rfl ?_
  exact xle_jump rfl
noncomputable def D_M_place_71 (z : xzs) (xs0 : Int32) (h : xH) : Option xR :=
  some (.inl (some (.int xs0)), h)
set_option maxRecDepth 20000 in
theorem E_M_place_71 (z : xzs) (xs0 : Int32) (h : xH) : xle (D_M_place_71 z xs0 h) (B_M_place_71 z xs0 h) := by
  unfold D_M_place_71 B_M_place_71
  exact xle_end (i := .ireturn) rfl rfl rfl
noncomputable def B_M_capability_21 (z : xzs) (xs0 : Int32) (h : xH) : Option xR := xev (K_M_capability z) (21, [], [.int xs0], h)
noncomputable def D_M_capability_0 (z : xzs) (a0 : Nat) (p1 : Int32) (p2 : Int32) (h : xH) : Option xR :=
  (xisO h a0 6).bind fun _ => xclI (f_M_place z [.ref a0, .int p1, .int p2] h) fun x2 h1 =>
  if 0 ≤ x2 then
    (rdR h1 a0 6 14).bind fun r3 =>
    r3.bind fun a4 =>
    (rdA 0 h1 a4 x2).bind fun x5 =>
    B_M_capability_21 z x5 h1
  else
    B_M_capability_21 z (Int32.ofInt 0) h1
set_option maxRecDepth 20000 in
theorem E_M_capability (z : xzs) (a0 : Nat) (p1 : Int32) (p2 : Int32) (h : xH) : xle (D_M_capability_0 z a0 p1 p2 h) (xfun (K_M_capability z) 4 [.ref a0, .int p1, .int p2] h) := by
  unfold D_M_capability_0
  refine xle_entry (Nat.le_of_ble_eq_true rfl) (xal_c (xca_a _) (xal_c (xca_i _) (xal_c (xca_i _) (rfl)))) ?_
  show xle _ (xev (K_M_capability z) (0, [(0, .ref a0), (1, .int p1), (2, .int p2)], [], h))
  refine xle_next (i := .aload_n 0) (x' := (1, [(0, .ref a0), (1, .int p1), (2, .int p2)], [.ref a0], h)) rfl rfl rfl ?_
  refine xle_next (i := .iload_n 1) (x' := (2, [(0, .ref a0), (1, .int p1), (2, .int p2)], [.int p1, .ref a0], h)) rfl rfl rfl ?_
  refine xle_next (i := .iload_n 2) (x' := (3, [(0, .ref a0), (1, .int p1), (2, .int p2)], [.int p2, .int p1, .ref a0], h)) rfl rfl rfl ?_
  refine xle_isO (i := .invokevirtual 124) (bq := a0) (ci := 6) (fo := (f_M_place z [.ref a0, .int p1, .int p2] h).bind (xback 3 [(0, .ref a0), (1, .int p1), (2, .int p2)] [])) rfl rfl rfl (fun hs => ?_)
  refine xle_clI (t := []) rfl rfl hs (fun x2 h1 => ?_)
  refine xle_next (i := .istore_n 3) (x' := (7, [(0, .ref a0), (1, .int p1), (2, .int p2), (3, .int x2)], [], h1)) rfl rfl rfl ?_
  refine xle_next (i := .iload_n 3) (x' := (8, [(0, .ref a0), (1, .int p1), (2, .int p2), (3, .int x2)], [.int x2], h1)) rfl rfl rfl ?_
  refine xle_if (cd := .ge) (q := 15) rfl rfl rfl xc_ge (fun _ => ?_) (fun _ => ?_)
  · refine xle_next (i := .aload_n 0) (x' := (16, [(0, .ref a0), (1, .int p1), (2, .int p2), (3, .int x2)], [.ref a0], h1)) rfl rfl rfl ?_
    refine xle_getR (f := (6, 14, .array .int, 0)) rfl rfl rfl (fun r3 => ?_)
    refine xle_next (i := .iload_n 3) (x' := (20, [(0, .ref a0), (1, .int p1), (2, .int p2), (3, .int x2)], [.int x2, va_rf r3], h1)) rfl rfl rfl ?_
    refine xle_some (fun r_ => (20, [(0, .ref a0), (1, .int p1), (2, .int p2), (3, .int x2)], [.int x2, va_rf r_], h1)) (fun a4 => ?_)
    refine xle_iald rfl rfl (fun x5 => ?_)
    exact xle_jump rfl
  · refine xle_next (i := .iconst 0) (x' := (12, [(0, .ref a0), (1, .int p1), (2, .int p2), (3, .int x2)], [.int (Int32.ofInt 0)], h1)) rfl rfl rfl ?_
    refine xle_next (i := .goto 9) (x' := (21, [(0, .ref a0), (1, .int p1), (2, .int p2), (3, .int x2)], [.int (Int32.ofInt 0)], h1)) rfl rfl rfl ?_
    exact xle_jump rfl
noncomputable def D_M_capability_21 (z : xzs) (xs0 : Int32) (h : xH) : Option xR :=
  some (.inl (some (.int xs0)), h)
set_option maxRecDepth 20000 in
theorem E_M_capability_21 (z : xzs) (xs0 : Int32) (h : xH) : xle (D_M_capability_21 z xs0 h) (B_M_capability_21 z xs0 h) := by
  unfold D_M_capability_21 B_M_capability_21
  exact xle_end (i := .ireturn) rfl rfl rfl
noncomputable def B_M_left_4 (z : xzs) (a0 : Nat) (xv1 : Int32) (xv2 : Int32) (xv3 : Int32) (h : xH) : Option xR := xev (K_M_left z) (4, [(0, .ref a0), (1, .int xv1), (2, .int xv2), (3, .int xv3)], [], h)
noncomputable def B_M_left_34 (z : xzs) (a0 : Nat) (xv1 : Int32) (xv2 : Int32) (xv3 : Int32) (h : xH) : Option xR := xev (K_M_left z) (34, [(0, .ref a0), (1, .int xv1), (2, .int xv2), (3, .int xv3)], [], h)
noncomputable def D_M_left_0 (z : xzs) (a0 : Nat) (p1 : Int32) (h : xH) : Option xR :=
  B_M_left_4 z a0 p1 (Int32.ofInt 0) (Int32.ofInt 1) h
set_option maxRecDepth 20000 in
theorem E_M_left (z : xzs) (a0 : Nat) (p1 : Int32) (h : xH) : xle (D_M_left_0 z a0 p1 h) (xfun (K_M_left z) 4 [.ref a0, .int p1] h) := by
  unfold D_M_left_0
  refine xle_entry (Nat.le_of_ble_eq_true rfl) (xal_c (xca_a _) (xal_c (xca_i _) (rfl))) ?_
  show xle _ (xev (K_M_left z) (0, [(0, .ref a0), (1, .int p1)], [], h))
  refine xle_next (i := .iconst 0) (x' := (1, [(0, .ref a0), (1, .int p1)], [.int (Int32.ofInt 0)], h)) rfl rfl rfl ?_
  refine xle_next (i := .istore_n 2) (x' := (2, [(0, .ref a0), (1, .int p1), (2, .int (Int32.ofInt 0))], [], h)) rfl rfl rfl ?_
  refine xle_next (i := .iconst 1) (x' := (3, [(0, .ref a0), (1, .int p1), (2, .int (Int32.ofInt 0))], [.int (Int32.ofInt 1)], h)) rfl rfl rfl ?_
  refine xle_next (i := .istore_n 3) (x' := (4, [(0, .ref a0), (1, .int p1), (2, .int (Int32.ofInt 0)), (3, .int (Int32.ofInt 1))], [], h)) rfl rfl rfl ?_
  exact xle_jump rfl
noncomputable def D_M_left_4 (z : xzs) (a0 : Nat) (xv1 : Int32) (xv2 : Int32) (xv3 : Int32) (h : xH) : Option xR :=
  (rdI h a0 6 13).bind fun x1 =>
  if x1 < xv3 then
    some (.inl (some (.int xv2)), h)
  else
    (rdR h a0 6 12).bind fun r2 =>
    r2.bind fun a3 =>
    (rdA 1 h a3 xv3).bind fun x4 =>
    if x4 = 0 then
      B_M_left_34 z a0 xv1 xv2 xv3 h
    else
      (rdR h a0 6 8).bind fun r5 =>
      r5.bind fun a6 =>
      (rdA 0 h a6 xv3).bind fun x7 =>
      if ¬ x7 = xv1 then
        B_M_left_34 z a0 xv1 xv2 xv3 h
      else
        B_M_left_34 z a0 xv1 (xv2 + Int32.ofInt 1) xv3 h
set_option maxRecDepth 20000 in
theorem E_M_left_4 (z : xzs) (a0 : Nat) (xv1 : Int32) (xv2 : Int32) (xv3 : Int32) (h : xH) : xle (D_M_left_4 z a0 xv1 xv2 xv3 h) (B_M_left_4 z a0 xv1 xv2 xv3 h) := by
  unfold D_M_left_4 B_M_left_4
  refine xle_next (i := .iload_n 3) (x' := (5, [(0, .ref a0), (1, .int xv1), (2, .int xv2), (3, .int xv3)], [.int xv3], h)) rfl rfl rfl ?_
  refine xle_next (i := .aload_n 0) (x' := (6, [(0, .ref a0), (1, .int xv1), (2, .int xv2), (3, .int xv3)], [.ref a0, .int xv3], h)) rfl rfl rfl ?_
  refine xle_getI (f := (6, 13, .int, 1)) rfl rfl rfl (fun x1 => ?_)
  refine xle_icmp (cd := .gt) (q := 40) rfl rfl rfl xc_gt (fun _ => ?_) (fun _ => ?_)
  · refine xle_next (i := .iload_n 2) (x' := (41, [(0, .ref a0), (1, .int xv1), (2, .int xv2), (3, .int xv3)], [.int xv2], h)) rfl rfl rfl ?_
    exact xle_end (i := .ireturn) rfl rfl rfl
  · refine xle_next (i := .aload_n 0) (x' := (13, [(0, .ref a0), (1, .int xv1), (2, .int xv2), (3, .int xv3)], [.ref a0], h)) rfl rfl rfl ?_
    refine xle_getR (f := (6, 12, .array .boolean, 0)) rfl rfl rfl (fun r2 => ?_)
    refine xle_next (i := .iload_n 3) (x' := (17, [(0, .ref a0), (1, .int xv1), (2, .int xv2), (3, .int xv3)], [.int xv3, va_rf r2], h)) rfl rfl rfl ?_
    refine xle_some (fun r_ => (17, [(0, .ref a0), (1, .int xv1), (2, .int xv2), (3, .int xv3)], [.int xv3, va_rf r_], h)) (fun a3 => ?_)
    refine xle_bald rfl rfl (fun x4 => ?_)
    refine xle_if (cd := .eq) (q := 34) rfl rfl rfl xc_eq (fun _ => ?_) (fun _ => ?_)
    · exact xle_jump rfl
    · refine xle_next (i := .aload_n 0) (x' := (22, [(0, .ref a0), (1, .int xv1), (2, .int xv2), (3, .int xv3)], [.ref a0], h)) rfl rfl rfl ?_
      refine xle_getR (f := (6, 8, .array .int, 0)) rfl rfl rfl (fun r5 => ?_)
      refine xle_next (i := .iload_n 3) (x' := (26, [(0, .ref a0), (1, .int xv1), (2, .int xv2), (3, .int xv3)], [.int xv3, va_rf r5], h)) rfl rfl rfl ?_
      refine xle_some (fun r_ => (26, [(0, .ref a0), (1, .int xv1), (2, .int xv2), (3, .int xv3)], [.int xv3, va_rf r_], h)) (fun a6 => ?_)
      refine xle_iald rfl rfl (fun x7 => ?_)
      refine xle_next (i := .iload_n 1) (x' := (28, [(0, .ref a0), (1, .int xv1), (2, .int xv2), (3, .int xv3)], [.int xv1, .int x7], h)) rfl rfl rfl ?_
      refine xle_icmp (cd := .ne) (q := 34) rfl rfl rfl xc_ne (fun _ => ?_) (fun _ => ?_)
      · exact xle_jump rfl
      · refine xle_next (i := .iinc 2 1) (x' := (34, [(0, .ref a0), (1, .int xv1), (2, .int (xv2 + Int32.ofInt 1)), (3, .int xv3)], [], h)) rfl rfl rfl ?_
        exact xle_jump rfl
noncomputable def D_M_left_34 (z : xzs) (a0 : Nat) (xv1 : Int32) (xv2 : Int32) (xv3 : Int32) (h : xH) : Option xR :=
  B_M_left_4 z a0 xv1 xv2 (xv3 + Int32.ofInt 1) h
set_option maxRecDepth 20000 in
theorem E_M_left_34 (z : xzs) (a0 : Nat) (xv1 : Int32) (xv2 : Int32) (xv3 : Int32) (h : xH) : xle (D_M_left_34 z a0 xv1 xv2 xv3 h) (B_M_left_34 z a0 xv1 xv2 xv3 h) := by
  unfold D_M_left_34 B_M_left_34
  refine xle_next (i := .iinc 3 1) (x' := (37, [(0, .ref a0), (1, .int xv1), (2, .int xv2), (3, .int (xv3 + Int32.ofInt 1))], [], h)) rfl rfl rfl ?_
  refine xle_next (i := .goto (-33)) (x' := (4, [(0, .ref a0), (1, .int xv1), (2, .int xv2), (3, .int (xv3 + Int32.ofInt 1))], [], h)) rfl rfl rfl ?_
  exact xle_jump rfl
noncomputable def B_M_abort_20 (z : xzs) (a0 : Nat) (xv1 : Int32) (xv2 : Int32) (h : xH) : Option xR := xev (K_M_abort z) (20, [(0, .ref a0), (1, .int xv1), (2, .int xv2)], [], h)
noncomputable def D_M_abort_0 (z : xzs) (a0 : Nat) (p1 : Int32) (h : xH) : Option xR :=
  (xisO h a0 6).bind fun _ => xclI (f_M_waiting z [.ref a0, .int p1, .int (Int32.ofInt 1), .int (Int32.ofInt 2)] h) fun x2 h1 =>
  if ¬ x2 = 0 then
    B_M_abort_20 z a0 p1 x2 h1
  else
    (xisO h1 a0 6).bind fun _ => xclI (f_M_waiting z [.ref a0, .int p1, .int (Int32.ofInt 4), .int (Int32.ofInt 5)] h1) fun x4 h3 =>
    B_M_abort_20 z a0 p1 x4 h3
set_option maxRecDepth 20000 in
theorem E_M_abort (z : xzs) (a0 : Nat) (p1 : Int32) (h : xH) : xle (D_M_abort_0 z a0 p1 h) (xfun (K_M_abort z) 3 [.ref a0, .int p1] h) := by
  unfold D_M_abort_0
  refine xle_entry (Nat.le_of_ble_eq_true rfl) (xal_c (xca_a _) (xal_c (xca_i _) (rfl))) ?_
  show xle _ (xev (K_M_abort z) (0, [(0, .ref a0), (1, .int p1)], [], h))
  refine xle_next (i := .aload_n 0) (x' := (1, [(0, .ref a0), (1, .int p1)], [.ref a0], h)) rfl rfl rfl ?_
  refine xle_next (i := .iload_n 1) (x' := (2, [(0, .ref a0), (1, .int p1)], [.int p1, .ref a0], h)) rfl rfl rfl ?_
  refine xle_next (i := .iconst 1) (x' := (3, [(0, .ref a0), (1, .int p1)], [.int (Int32.ofInt 1), .int p1, .ref a0], h)) rfl rfl rfl ?_
  refine xle_next (i := .iconst 2) (x' := (4, [(0, .ref a0), (1, .int p1)], [.int (Int32.ofInt 2), .int (Int32.ofInt 1), .int p1, .ref a0], h)) rfl rfl rfl ?_
  refine xle_isO (i := .invokevirtual 128) (bq := a0) (ci := 6) (fo := (f_M_waiting z [.ref a0, .int p1, .int (Int32.ofInt 1), .int (Int32.ofInt 2)] h).bind (xback 4 [(0, .ref a0), (1, .int p1)] [])) rfl rfl rfl (fun hs => ?_)
  refine xle_clI (t := []) rfl rfl hs (fun x2 h1 => ?_)
  refine xle_next (i := .istore_n 2) (x' := (8, [(0, .ref a0), (1, .int p1), (2, .int x2)], [], h1)) rfl rfl rfl ?_
  refine xle_next (i := .iload_n 2) (x' := (9, [(0, .ref a0), (1, .int p1), (2, .int x2)], [.int x2], h1)) rfl rfl rfl ?_
  refine xle_if (cd := .ne) (q := 20) rfl rfl rfl xc_ne (fun _ => ?_) (fun _ => ?_)
  · exact xle_jump rfl
  · refine xle_next (i := .aload_n 0) (x' := (13, [(0, .ref a0), (1, .int p1), (2, .int x2)], [.ref a0], h1)) rfl rfl rfl ?_
    refine xle_next (i := .iload_n 1) (x' := (14, [(0, .ref a0), (1, .int p1), (2, .int x2)], [.int p1, .ref a0], h1)) rfl rfl rfl ?_
    refine xle_next (i := .iconst 4) (x' := (15, [(0, .ref a0), (1, .int p1), (2, .int x2)], [.int (Int32.ofInt 4), .int p1, .ref a0], h1)) rfl rfl rfl ?_
    refine xle_next (i := .iconst 5) (x' := (16, [(0, .ref a0), (1, .int p1), (2, .int x2)], [.int (Int32.ofInt 5), .int (Int32.ofInt 4), .int p1, .ref a0], h1)) rfl rfl rfl ?_
    refine xle_isO (i := .invokevirtual 128) (bq := a0) (ci := 6) (fo := (f_M_waiting z [.ref a0, .int p1, .int (Int32.ofInt 4), .int (Int32.ofInt 5)] h1).bind (xback 16 [(0, .ref a0), (1, .int p1), (2, .int x2)] [])) rfl rfl rfl (fun hs => ?_)
    refine xle_clI (t := []) rfl rfl hs (fun x4 h3 => ?_)
    refine xle_next (i := .istore_n 2) (x' := (20, [(0, .ref a0), (1, .int p1), (2, .int x4)], [], h3)) rfl rfl rfl ?_
    exact xle_jump rfl
noncomputable def D_M_abort_20 (z : xzs) (a0 : Nat) (xv1 : Int32) (xv2 : Int32) (h : xH) : Option xR :=
  if xv2 ≤ 0 then
    some (.inl none, h)
  else
    (rdR h a0 6 16).bind fun r5 =>
    r5.bind fun a6 =>
    (wrI h a6 xv2 (Int32.ofInt 1)).bind fun h7 =>
    (xisO h7 a0 6).bind fun _ => xclV (f_M_ready z [.ref a0, .int xv2] h7) fun h8 =>
    (xisO h8 a0 6).bind fun _ => xclI (f_M_waiting z [.ref a0, .int xv1, .int (Int32.ofInt 1), .int (Int32.ofInt 2)] h8) fun x10 h9 =>
    if ¬ x10 = 0 then
      B_M_abort_20 z a0 xv1 x10 h9
    else
      (xisO h9 a0 6).bind fun _ => xclI (f_M_waiting z [.ref a0, .int xv1, .int (Int32.ofInt 4), .int (Int32.ofInt 5)] h9) fun x12 h11 =>
      B_M_abort_20 z a0 xv1 x12 h11
set_option maxRecDepth 20000 in
theorem E_M_abort_20 (z : xzs) (a0 : Nat) (xv1 : Int32) (xv2 : Int32) (h : xH) : xle (D_M_abort_20 z a0 xv1 xv2 h) (B_M_abort_20 z a0 xv1 xv2 h) := by
  unfold D_M_abort_20 B_M_abort_20
  refine xle_next (i := .iload_n 2) (x' := (21, [(0, .ref a0), (1, .int xv1), (2, .int xv2)], [.int xv2], h)) rfl rfl rfl ?_
  refine xle_if (cd := .le) (q := 59) rfl rfl rfl xc_le (fun _ => ?_) (fun _ => ?_)
  · exact xle_end (i := .return_) rfl rfl rfl
  · refine xle_next (i := .aload_n 0) (x' := (25, [(0, .ref a0), (1, .int xv1), (2, .int xv2)], [.ref a0], h)) rfl rfl rfl ?_
    refine xle_getR (f := (6, 16, .array .int, 0)) rfl rfl rfl (fun r5 => ?_)
    refine xle_next (i := .iload_n 2) (x' := (29, [(0, .ref a0), (1, .int xv1), (2, .int xv2)], [.int xv2, va_rf r5], h)) rfl rfl rfl ?_
    refine xle_next (i := .iconst 1) (x' := (30, [(0, .ref a0), (1, .int xv1), (2, .int xv2)], [.int (Int32.ofInt 1), .int xv2, va_rf r5], h)) rfl rfl rfl ?_
    refine xle_some (fun r_ => (30, [(0, .ref a0), (1, .int xv1), (2, .int xv2)], [.int (Int32.ofInt 1), .int xv2, va_rf r_], h)) (fun a6 => ?_)
    refine xle_iast rfl rfl (fun h7 => ?_)
    refine xle_next (i := .aload_n 0) (x' := (32, [(0, .ref a0), (1, .int xv1), (2, .int xv2)], [.ref a0], h7)) rfl rfl rfl ?_
    refine xle_next (i := .iload_n 2) (x' := (33, [(0, .ref a0), (1, .int xv1), (2, .int xv2)], [.int xv2, .ref a0], h7)) rfl rfl rfl ?_
    refine xle_isO (i := .invokevirtual 132) (bq := a0) (ci := 6) (fo := (f_M_ready z [.ref a0, .int xv2] h7).bind (xback 33 [(0, .ref a0), (1, .int xv1), (2, .int xv2)] [])) rfl rfl rfl (fun hs => ?_)
    refine xle_clV (t := []) rfl rfl hs (fun h8 => ?_)
    refine xle_next (i := .aload_n 0) (x' := (37, [(0, .ref a0), (1, .int xv1), (2, .int xv2)], [.ref a0], h8)) rfl rfl rfl ?_
    refine xle_next (i := .iload_n 1) (x' := (38, [(0, .ref a0), (1, .int xv1), (2, .int xv2)], [.int xv1, .ref a0], h8)) rfl rfl rfl ?_
    refine xle_next (i := .iconst 1) (x' := (39, [(0, .ref a0), (1, .int xv1), (2, .int xv2)], [.int (Int32.ofInt 1), .int xv1, .ref a0], h8)) rfl rfl rfl ?_
    refine xle_next (i := .iconst 2) (x' := (40, [(0, .ref a0), (1, .int xv1), (2, .int xv2)], [.int (Int32.ofInt 2), .int (Int32.ofInt 1), .int xv1, .ref a0], h8)) rfl rfl rfl ?_
    refine xle_isO (i := .invokevirtual 128) (bq := a0) (ci := 6) (fo := (f_M_waiting z [.ref a0, .int xv1, .int (Int32.ofInt 1), .int (Int32.ofInt 2)] h8).bind (xback 40 [(0, .ref a0), (1, .int xv1), (2, .int xv2)] [])) rfl rfl rfl (fun hs => ?_)
    refine xle_clI (t := []) rfl rfl hs (fun x10 h9 => ?_)
    refine xle_next (i := .istore_n 2) (x' := (44, [(0, .ref a0), (1, .int xv1), (2, .int x10)], [], h9)) rfl rfl rfl ?_
    refine xle_next (i := .iload_n 2) (x' := (45, [(0, .ref a0), (1, .int xv1), (2, .int x10)], [.int x10], h9)) rfl rfl rfl ?_
    refine xle_if (cd := .ne) (q := 20) rfl rfl rfl xc_ne (fun _ => ?_) (fun _ => ?_)
    · exact xle_jump rfl
    · refine xle_next (i := .aload_n 0) (x' := (49, [(0, .ref a0), (1, .int xv1), (2, .int x10)], [.ref a0], h9)) rfl rfl rfl ?_
      refine xle_next (i := .iload_n 1) (x' := (50, [(0, .ref a0), (1, .int xv1), (2, .int x10)], [.int xv1, .ref a0], h9)) rfl rfl rfl ?_
      refine xle_next (i := .iconst 4) (x' := (51, [(0, .ref a0), (1, .int xv1), (2, .int x10)], [.int (Int32.ofInt 4), .int xv1, .ref a0], h9)) rfl rfl rfl ?_
      refine xle_next (i := .iconst 5) (x' := (52, [(0, .ref a0), (1, .int xv1), (2, .int x10)], [.int (Int32.ofInt 5), .int (Int32.ofInt 4), .int xv1, .ref a0], h9)) rfl rfl rfl ?_
      refine xle_isO (i := .invokevirtual 128) (bq := a0) (ci := 6) (fo := (f_M_waiting z [.ref a0, .int xv1, .int (Int32.ofInt 4), .int (Int32.ofInt 5)] h9).bind (xback 52 [(0, .ref a0), (1, .int xv1), (2, .int x10)] [])) rfl rfl rfl (fun hs => ?_)
      refine xle_clI (t := []) rfl rfl hs (fun x12 h11 => ?_)
      refine xle_next (i := .istore_n 2) (x' := (56, [(0, .ref a0), (1, .int xv1), (2, .int x12)], [], h11)) rfl rfl rfl ?_
      refine xle_next (i := .goto (-36)) (x' := (20, [(0, .ref a0), (1, .int xv1), (2, .int x12)], [], h11)) rfl rfl rfl ?_
      exact xle_jump rfl
noncomputable def B_M_slotOf_2 (z : xzs) (a0 : Nat) (xv1 : Int32) (xv2 : Int32) (h : xH) : Option xR := xev (K_M_slotOf z) (2, [(0, .ref a0), (1, .int xv1), (2, .int xv2)], [], h)
noncomputable def D_M_slotOf_0 (z : xzs) (a0 : Nat) (p1 : Int32) (h : xH) : Option xR :=
  B_M_slotOf_2 z a0 p1 (Int32.ofInt 0) h
set_option maxRecDepth 20000 in
theorem E_M_slotOf (z : xzs) (a0 : Nat) (p1 : Int32) (h : xH) : xle (D_M_slotOf_0 z a0 p1 h) (xfun (K_M_slotOf z) 3 [.ref a0, .int p1] h) := by
  unfold D_M_slotOf_0
  refine xle_entry (Nat.le_of_ble_eq_true rfl) (xal_c (xca_a _) (xal_c (xca_i _) (rfl))) ?_
  show xle _ (xev (K_M_slotOf z) (0, [(0, .ref a0), (1, .int p1)], [], h))
  refine xle_next (i := .iconst 0) (x' := (1, [(0, .ref a0), (1, .int p1)], [.int (Int32.ofInt 0)], h)) rfl rfl rfl ?_
  refine xle_next (i := .istore_n 2) (x' := (2, [(0, .ref a0), (1, .int p1), (2, .int (Int32.ofInt 0))], [], h)) rfl rfl rfl ?_
  exact xle_jump rfl
noncomputable def D_M_slotOf_2 (z : xzs) (a0 : Nat) (xv1 : Int32) (xv2 : Int32) (h : xH) : Option xR :=
  if ((Int16.ofInt 400).toInt32) ≤ xv2 then
    some (.inl (some (.int (Int32.ofInt (-1)))), h)
  else
    (rdR h a0 6 14).bind fun r1 =>
    r1.bind fun a2 =>
    (rdA 0 h a2 xv2).bind fun x3 =>
    if ¬ x3 = xv1 then
      B_M_slotOf_2 z a0 xv1 (xv2 + Int32.ofInt 1) h
    else
      some (.inl (some (.int xv2)), h)
set_option maxRecDepth 20000 in
theorem E_M_slotOf_2 (z : xzs) (a0 : Nat) (xv1 : Int32) (xv2 : Int32) (h : xH) : xle (D_M_slotOf_2 z a0 xv1 xv2 h) (B_M_slotOf_2 z a0 xv1 xv2 h) := by
  unfold D_M_slotOf_2 B_M_slotOf_2
  refine xle_next (i := .iload_n 2) (x' := (3, [(0, .ref a0), (1, .int xv1), (2, .int xv2)], [.int xv2], h)) rfl rfl rfl ?_
  refine xle_next (i := .sipush 400) (x' := (6, [(0, .ref a0), (1, .int xv1), (2, .int xv2)], [.int ((Int16.ofInt 400).toInt32), .int xv2], h)) rfl rfl rfl ?_
  refine xle_icmp (cd := .ge) (q := 27) rfl rfl rfl xc_ge (fun _ => ?_) (fun _ => ?_)
  · refine xle_next (i := .iconst (-1)) (x' := (28, [(0, .ref a0), (1, .int xv1), (2, .int xv2)], [.int (Int32.ofInt (-1))], h)) rfl rfl rfl ?_
    exact xle_end (i := .ireturn) rfl rfl rfl
  · refine xle_next (i := .aload_n 0) (x' := (10, [(0, .ref a0), (1, .int xv1), (2, .int xv2)], [.ref a0], h)) rfl rfl rfl ?_
    refine xle_getR (f := (6, 14, .array .int, 0)) rfl rfl rfl (fun r1 => ?_)
    refine xle_next (i := .iload_n 2) (x' := (14, [(0, .ref a0), (1, .int xv1), (2, .int xv2)], [.int xv2, va_rf r1], h)) rfl rfl rfl ?_
    refine xle_some (fun r_ => (14, [(0, .ref a0), (1, .int xv1), (2, .int xv2)], [.int xv2, va_rf r_], h)) (fun a2 => ?_)
    refine xle_iald rfl rfl (fun x3 => ?_)
    refine xle_next (i := .iload_n 1) (x' := (16, [(0, .ref a0), (1, .int xv1), (2, .int xv2)], [.int xv1, .int x3], h)) rfl rfl rfl ?_
    refine xle_icmp (cd := .ne) (q := 21) rfl rfl rfl xc_ne (fun _ => ?_) (fun _ => ?_)
    · refine xle_next (i := .iinc 2 1) (x' := (24, [(0, .ref a0), (1, .int xv1), (2, .int (xv2 + Int32.ofInt 1))], [], h)) rfl rfl rfl ?_
      refine xle_next (i := .goto (-22)) (x' := (2, [(0, .ref a0), (1, .int xv1), (2, .int (xv2 + Int32.ofInt 1))], [], h)) rfl rfl rfl ?_
      exact xle_jump rfl
    · refine xle_next (i := .iload_n 2) (x' := (20, [(0, .ref a0), (1, .int xv1), (2, .int xv2)], [.int xv2], h)) rfl rfl rfl ?_
      exact xle_end (i := .ireturn) rfl rfl rfl
noncomputable def B_M_drop_14 (z : xzs) (a0 : Nat) (xv2 : Int32) (h : xH) : Option xR := xev (K_M_drop z) (14, [(0, .ref a0), (2, .int xv2)], [], h)
noncomputable def B_M_drop_77 (z : xzs) (a0 : Nat) (xv2 : Int32) (xv3 : Int32) (xv4 : Int32) (h : xH) : Option xR := xev (K_M_drop z) (77, [(0, .ref a0), (2, .int xv2), (3, .int xv3), (4, .int xv4)], [], h)
noncomputable def B_M_drop_170 (z : xzs) (a0 : Nat) (xv2 : Int32) (xv4 : Int32) (xv5 : Int32) (h : xH) : Option xR := xev (K_M_drop z) (170, [(0, .ref a0), (2, .int xv2), (4, .int xv4), (5, .int xv5)], [], h)
noncomputable def B_M_drop_120 (z : xzs) (a0 : Nat) (xv2 : Int32) (xv3 : Int32) (xv4 : Int32) (h : xH) : Option xR := xev (K_M_drop z) (120, [(0, .ref a0), (2, .int xv2), (3, .int xv3), (4, .int xv4)], [], h)
noncomputable def B_M_drop_243 (z : xzs) (a0 : Nat) (xv2 : Int32) (h : xH) : Option xR := xev (K_M_drop z) (243, [(0, .ref a0), (2, .int xv2)], [], h)
noncomputable def B_M_drop_237 (z : xzs) (a0 : Nat) (xv2 : Int32) (xv4 : Int32) (xv5 : Int32) (h : xH) : Option xR := xev (K_M_drop z) (237, [(0, .ref a0), (2, .int xv2), (4, .int xv4), (5, .int xv5)], [], h)
noncomputable def D_M_drop_0 (z : xzs) (a0 : Nat) (p1 : Int32) (h : xH) : Option xR :=
  (xwr h a0 6 33 (.int (Int32.ofInt 1))).bind fun h1 =>
  (rdR h1 a0 6 32).bind fun r2 =>
  r2.bind fun a3 =>
  (wrI h1 a3 (Int32.ofInt 0) p1).bind fun h4 =>
  B_M_drop_14 z a0 (Int32.ofInt 0) h4
set_option maxRecDepth 20000 in
theorem E_M_drop (z : xzs) (a0 : Nat) (p1 : Int32) (h : xH) : xle (D_M_drop_0 z a0 p1 h) (xfun (K_M_drop z) 6 [.ref a0, .int p1] h) := by
  unfold D_M_drop_0
  refine xle_entry (Nat.le_of_ble_eq_true rfl) (xal_c (xca_a _) (xal_c (xca_i _) (rfl))) ?_
  show xle _ (xev (K_M_drop z) (0, [(0, .ref a0), (1, .int p1)], [], h))
  refine xle_next (i := .iconst 0) (x' := (1, [(0, .ref a0), (1, .int p1)], [.int (Int32.ofInt 0)], h)) rfl rfl rfl ?_
  refine xle_next (i := .istore_n 2) (x' := (2, [(0, .ref a0), (1, .int p1), (2, .int (Int32.ofInt 0))], [], h)) rfl rfl rfl ?_
  refine xle_next (i := .aload_n 0) (x' := (3, [(0, .ref a0), (1, .int p1), (2, .int (Int32.ofInt 0))], [.ref a0], h)) rfl rfl rfl ?_
  refine xle_next (i := .iconst 1) (x' := (4, [(0, .ref a0), (1, .int p1), (2, .int (Int32.ofInt 0))], [.int (Int32.ofInt 1), .ref a0], h)) rfl rfl rfl ?_
  refine xle_put (v := .int (Int32.ofInt 1)) (f := (6, 33, .int, 1)) rfl rfl rfl ⟨by decide, rfl, rfl⟩ (fun h1 => ?_)
  refine xle_next (i := .aload_n 0) (x' := (8, [(0, .ref a0), (1, .int p1), (2, .int (Int32.ofInt 0))], [.ref a0], h1)) rfl rfl rfl ?_
  refine xle_getR (f := (6, 32, .array .int, 0)) rfl rfl rfl (fun r2 => ?_)
  refine xle_next (i := .iconst 0) (x' := (12, [(0, .ref a0), (1, .int p1), (2, .int (Int32.ofInt 0))], [.int (Int32.ofInt 0), va_rf r2], h1)) rfl rfl rfl ?_
  refine xle_next (i := .iload_n 1) (x' := (13, [(0, .ref a0), (1, .int p1), (2, .int (Int32.ofInt 0))], [.int p1, .int (Int32.ofInt 0), va_rf r2], h1)) rfl rfl rfl ?_
  refine xle_some (fun r_ => (13, [(0, .ref a0), (1, .int p1), (2, .int (Int32.ofInt 0))], [.int p1, .int (Int32.ofInt 0), va_rf r_], h1)) (fun a3 => ?_)
  refine xle_iast rfl rfl (fun h4 => ?_)
  exact xle_jump rfl
noncomputable def D_M_drop_14 (z : xzs) (a0 : Nat) (xv2 : Int32) (h : xH) : Option xR :=
  (rdI h a0 6 33).bind fun x5 =>
  if x5 ≤ 0 then
    some (.inl (some (.int xv2)), h)
  else
    (rdI h a0 6 33).bind fun x6 =>
    (xwr h a0 6 33 (.int (x6 - (Int32.ofInt 1)))).bind fun h7 =>
    (rdR h7 a0 6 32).bind fun r8 =>
    (rdI h7 a0 6 33).bind fun x9 =>
    r8.bind fun a10 =>
    (rdA 0 h7 a10 x9).bind fun x11 =>
    (rdR h7 a0 6 12).bind fun r12 =>
    r12.bind fun a13 =>
    (rdA 1 h7 a13 x11).bind fun x14 =>
    if ¬ x14 = 0 then
      (rdR h7 a0 6 12).bind fun r15 =>
      r15.bind fun a16 =>
      (wrZ h7 a16 x11 (Int32.ofInt 0)).bind fun h17 =>
      (rdR h17 a0 6 14).bind fun r18 =>
      (xisO h17 a0 6).bind fun _ => xclI (f_M_slotOf z [.ref a0, .int x11] h17) fun x20 h19 =>
      r18.bind fun a21 =>
      (wrI h19 a21 x20 (Int32.ofInt 0)).bind fun h22 =>
      B_M_drop_77 z a0 (xv2 + Int32.ofInt 1) x11 (Int32.ofInt 1) h22
    else
      B_M_drop_14 z a0 xv2 h7
set_option maxRecDepth 20000 in
theorem E_M_drop_14 (z : xzs) (a0 : Nat) (xv2 : Int32) (h : xH) : xle (D_M_drop_14 z a0 xv2 h) (B_M_drop_14 z a0 xv2 h) := by
  unfold D_M_drop_14 B_M_drop_14
  refine xle_next (i := .aload_n 0) (x' := (15, [(0, .ref a0), (2, .int xv2)], [.ref a0], h)) rfl rfl rfl ?_
  refine xle_getI (f := (6, 33, .int, 1)) rfl rfl rfl (fun x5 => ?_)
  refine xle_if (cd := .le) (q := 246) rfl rfl rfl xc_le (fun _ => ?_) (fun _ => ?_)
  · refine xle_next (i := .iload_n 2) (x' := (247, [(0, .ref a0), (2, .int xv2)], [.int xv2], h)) rfl rfl rfl ?_
    exact xle_end (i := .ireturn) rfl rfl rfl
  · refine xle_next (i := .aload_n 0) (x' := (22, [(0, .ref a0), (2, .int xv2)], [.ref a0], h)) rfl rfl rfl ?_
    refine xle_next (i := .dup) (x' := (23, [(0, .ref a0), (2, .int xv2)], [.ref a0, .ref a0], h)) rfl rfl rfl ?_
    refine xle_getI (f := (6, 33, .int, 1)) rfl rfl rfl (fun x6 => ?_)
    refine xle_next (i := .iconst 1) (x' := (27, [(0, .ref a0), (2, .int xv2)], [.int (Int32.ofInt 1), .int x6, .ref a0], h)) rfl rfl rfl ?_
    refine xle_next (i := .isub) (x' := (28, [(0, .ref a0), (2, .int xv2)], [.int (x6 - (Int32.ofInt 1)), .ref a0], h)) rfl rfl rfl ?_
    refine xle_put (v := .int (x6 - (Int32.ofInt 1))) (f := (6, 33, .int, 1)) rfl rfl rfl ⟨by decide, rfl, rfl⟩ (fun h7 => ?_)
    refine xle_next (i := .aload_n 0) (x' := (32, [(0, .ref a0), (2, .int xv2)], [.ref a0], h7)) rfl rfl rfl ?_
    refine xle_getR (f := (6, 32, .array .int, 0)) rfl rfl rfl (fun r8 => ?_)
    refine xle_next (i := .aload_n 0) (x' := (36, [(0, .ref a0), (2, .int xv2)], [.ref a0, va_rf r8], h7)) rfl rfl rfl ?_
    refine xle_getI (f := (6, 33, .int, 1)) rfl rfl rfl (fun x9 => ?_)
    refine xle_some (fun r_ => (39, [(0, .ref a0), (2, .int xv2)], [.int x9, va_rf r_], h7)) (fun a10 => ?_)
    refine xle_iald rfl rfl (fun x11 => ?_)
    refine xle_next (i := .istore_n 3) (x' := (41, [(0, .ref a0), (2, .int xv2), (3, .int x11)], [], h7)) rfl rfl rfl ?_
    refine xle_next (i := .aload_n 0) (x' := (42, [(0, .ref a0), (2, .int xv2), (3, .int x11)], [.ref a0], h7)) rfl rfl rfl ?_
    refine xle_getR (f := (6, 12, .array .boolean, 0)) rfl rfl rfl (fun r12 => ?_)
    refine xle_next (i := .iload_n 3) (x' := (46, [(0, .ref a0), (2, .int xv2), (3, .int x11)], [.int x11, va_rf r12], h7)) rfl rfl rfl ?_
    refine xle_some (fun r_ => (46, [(0, .ref a0), (2, .int xv2), (3, .int x11)], [.int x11, va_rf r_], h7)) (fun a13 => ?_)
    refine xle_bald rfl rfl (fun x14 => ?_)
    refine xle_if (cd := .ne) (q := 53) rfl rfl rfl xc_ne (fun _ => ?_) (fun _ => ?_)
    · refine xle_next (i := .iinc 2 1) (x' := (56, [(0, .ref a0), (2, .int (xv2 + Int32.ofInt 1)), (3, .int x11)], [], h7)) rfl rfl rfl ?_
      refine xle_next (i := .aload_n 0) (x' := (57, [(0, .ref a0), (2, .int (xv2 + Int32.ofInt 1)), (3, .int x11)], [.ref a0], h7)) rfl rfl rfl ?_
      refine xle_getR (f := (6, 12, .array .boolean, 0)) rfl rfl rfl (fun r15 => ?_)
      refine xle_next (i := .iload_n 3) (x' := (61, [(0, .ref a0), (2, .int (xv2 + Int32.ofInt 1)), (3, .int x11)], [.int x11, va_rf r15], h7)) rfl rfl rfl ?_
      refine xle_next (i := .iconst 0) (x' := (62, [(0, .ref a0), (2, .int (xv2 + Int32.ofInt 1)), (3, .int x11)], [.int (Int32.ofInt 0), .int x11, va_rf r15], h7)) rfl rfl rfl ?_
      refine xle_some (fun r_ => (62, [(0, .ref a0), (2, .int (xv2 + Int32.ofInt 1)), (3, .int x11)], [.int (Int32.ofInt 0), .int x11, va_rf r_], h7)) (fun a16 => ?_)
      refine xle_bast rfl rfl (fun h17 => ?_)
      refine xle_next (i := .aload_n 0) (x' := (64, [(0, .ref a0), (2, .int (xv2 + Int32.ofInt 1)), (3, .int x11)], [.ref a0], h17)) rfl rfl rfl ?_
      refine xle_getR (f := (6, 14, .array .int, 0)) rfl rfl rfl (fun r18 => ?_)
      refine xle_next (i := .aload_n 0) (x' := (68, [(0, .ref a0), (2, .int (xv2 + Int32.ofInt 1)), (3, .int x11)], [.ref a0, va_rf r18], h17)) rfl rfl rfl ?_
      refine xle_next (i := .iload_n 3) (x' := (69, [(0, .ref a0), (2, .int (xv2 + Int32.ofInt 1)), (3, .int x11)], [.int x11, .ref a0, va_rf r18], h17)) rfl rfl rfl ?_
      refine xle_isO (i := .invokevirtual 139) (bq := a0) (ci := 6) (fo := (f_M_slotOf z [.ref a0, .int x11] h17).bind (xback 69 [(0, .ref a0), (2, .int (xv2 + Int32.ofInt 1)), (3, .int x11)] [va_rf r18])) rfl rfl rfl (fun hs => ?_)
      refine xle_clI (t := [va_rf r18]) rfl rfl hs (fun x20 h19 => ?_)
      refine xle_next (i := .iconst 0) (x' := (73, [(0, .ref a0), (2, .int (xv2 + Int32.ofInt 1)), (3, .int x11)], [.int (Int32.ofInt 0), .int x20, va_rf r18], h19)) rfl rfl rfl ?_
      refine xle_some (fun r_ => (73, [(0, .ref a0), (2, .int (xv2 + Int32.ofInt 1)), (3, .int x11)], [.int (Int32.ofInt 0), .int x20, va_rf r_], h19)) (fun a21 => ?_)
      refine xle_iast rfl rfl (fun h22 => ?_)
      refine xle_next (i := .iconst 1) (x' := (75, [(0, .ref a0), (2, .int (xv2 + Int32.ofInt 1)), (3, .int x11)], [.int (Int32.ofInt 1)], h22)) rfl rfl rfl ?_
      refine xle_next (i := .istore 4) (x' := (77, [(0, .ref a0), (2, .int (xv2 + Int32.ofInt 1)), (3, .int x11), (4, .int (Int32.ofInt 1))], [], h22)) rfl rfl rfl ?_
      exact xle_jump rfl
    · refine xle_next (i := .goto (-36)) (x' := (14, [(0, .ref a0), (2, .int xv2), (3, .int x11)], [], h7)) rfl rfl rfl ?_
      exact xle_jump rfl
noncomputable def D_M_drop_77 (z : xzs) (a0 : Nat) (xv2 : Int32) (xv3 : Int32) (xv4 : Int32) (h : xH) : Option xR :=
  (rdI h a0 6 13).bind fun x23 =>
  if x23 < xv4 then
    (rdR h a0 6 8).bind fun r24 =>
    r24.bind fun a25 =>
    (rdA 0 h a25 xv3).bind fun x26 =>
    if x26 < (Int32.ofInt 5) then
      B_M_drop_14 z a0 xv2 h
    else
      (xisO h a0 6).bind fun _ => xclI (f_M_left z [.ref a0, .int x26] h) fun x28 h27 =>
      if x28 ≤ 0 then
        (rdR h27 a0 6 6).bind fun r29 =>
        r29.bind fun a30 =>
        (wrZ h27 a30 x26 (Int32.ofInt 0)).bind fun h31 =>
        (xisO h31 a0 6).bind fun _ => xclV (f_M_abort z [.ref a0, .int x26] h31) fun h32 =>
        B_M_drop_170 z a0 xv2 x26 ((Int8.ofInt 7).toInt32) h32
      else
        B_M_drop_14 z a0 xv2 h27
  else
    (rdR h a0 6 12).bind fun r33 =>
    r33.bind fun a34 =>
    (rdA 1 h a34 xv4).bind fun x35 =>
    if x35 = 0 then
      B_M_drop_120 z a0 xv2 xv3 xv4 h
    else
      (rdR h a0 6 11).bind fun r36 =>
      r36.bind fun a37 =>
      (rdA 0 h a37 xv4).bind fun x38 =>
      if ¬ x38 = xv3 then
        B_M_drop_120 z a0 xv2 xv3 xv4 h
      else
        (rdR h a0 6 11).bind fun r39 =>
        (rdR h a0 6 11).bind fun r40 =>
        r40.bind fun a41 =>
        (rdA 0 h a41 xv3).bind fun x42 =>
        r39.bind fun a43 =>
        (wrI h a43 xv4 x42).bind fun h44 =>
        B_M_drop_120 z a0 xv2 xv3 xv4 h44
set_option maxRecDepth 20000 in
theorem E_M_drop_77 (z : xzs) (a0 : Nat) (xv2 : Int32) (xv3 : Int32) (xv4 : Int32) (h : xH) : xle (D_M_drop_77 z a0 xv2 xv3 xv4 h) (B_M_drop_77 z a0 xv2 xv3 xv4 h) := by
  unfold D_M_drop_77 B_M_drop_77
  refine xle_next (i := .iload 4) (x' := (79, [(0, .ref a0), (2, .int xv2), (3, .int xv3), (4, .int xv4)], [.int xv4], h)) rfl rfl rfl ?_
  refine xle_next (i := .aload_n 0) (x' := (80, [(0, .ref a0), (2, .int xv2), (3, .int xv3), (4, .int xv4)], [.ref a0, .int xv4], h)) rfl rfl rfl ?_
  refine xle_getI (f := (6, 13, .int, 1)) rfl rfl rfl (fun x23 => ?_)
  refine xle_icmp (cd := .gt) (q := 126) rfl rfl rfl xc_gt (fun _ => ?_) (fun _ => ?_)
  · refine xle_next (i := .aload_n 0) (x' := (127, [(0, .ref a0), (2, .int xv2), (3, .int xv3), (4, .int xv4)], [.ref a0], h)) rfl rfl rfl ?_
    refine xle_getR (f := (6, 8, .array .int, 0)) rfl rfl rfl (fun r24 => ?_)
    refine xle_next (i := .iload_n 3) (x' := (131, [(0, .ref a0), (2, .int xv2), (3, .int xv3), (4, .int xv4)], [.int xv3, va_rf r24], h)) rfl rfl rfl ?_
    refine xle_some (fun r_ => (131, [(0, .ref a0), (2, .int xv2), (3, .int xv3), (4, .int xv4)], [.int xv3, va_rf r_], h)) (fun a25 => ?_)
    refine xle_iald rfl rfl (fun x26 => ?_)
    refine xle_next (i := .istore 4) (x' := (134, [(0, .ref a0), (2, .int xv2), (3, .int xv3), (4, .int x26)], [], h)) rfl rfl rfl ?_
    refine xle_next (i := .iload 4) (x' := (136, [(0, .ref a0), (2, .int xv2), (3, .int xv3), (4, .int x26)], [.int x26], h)) rfl rfl rfl ?_
    refine xle_next (i := .iconst 5) (x' := (137, [(0, .ref a0), (2, .int xv2), (3, .int xv3), (4, .int x26)], [.int (Int32.ofInt 5), .int x26], h)) rfl rfl rfl ?_
    refine xle_icmp (cd := .lt) (q := 14) rfl rfl rfl xc_lt (fun _ => ?_) (fun _ => ?_)
    · exact xle_jump rfl
    · refine xle_next (i := .aload_n 0) (x' := (141, [(0, .ref a0), (2, .int xv2), (3, .int xv3), (4, .int x26)], [.ref a0], h)) rfl rfl rfl ?_
      refine xle_next (i := .iload 4) (x' := (143, [(0, .ref a0), (2, .int xv2), (3, .int xv3), (4, .int x26)], [.int x26, .ref a0], h)) rfl rfl rfl ?_
      refine xle_isO (i := .invokevirtual 143) (bq := a0) (ci := 6) (fo := (f_M_left z [.ref a0, .int x26] h).bind (xback 143 [(0, .ref a0), (2, .int xv2), (3, .int xv3), (4, .int x26)] [])) rfl rfl rfl (fun hs => ?_)
      refine xle_clI (t := []) rfl rfl hs (fun x28 h27 => ?_)
      refine xle_if (cd := .le) (q := 152) rfl rfl rfl xc_le (fun _ => ?_) (fun _ => ?_)
      · refine xle_next (i := .aload_n 0) (x' := (153, [(0, .ref a0), (2, .int xv2), (3, .int xv3), (4, .int x26)], [.ref a0], h27)) rfl rfl rfl ?_
        refine xle_getR (f := (6, 6, .array .boolean, 0)) rfl rfl rfl (fun r29 => ?_)
        refine xle_next (i := .iload 4) (x' := (158, [(0, .ref a0), (2, .int xv2), (3, .int xv3), (4, .int x26)], [.int x26, va_rf r29], h27)) rfl rfl rfl ?_
        refine xle_next (i := .iconst 0) (x' := (159, [(0, .ref a0), (2, .int xv2), (3, .int xv3), (4, .int x26)], [.int (Int32.ofInt 0), .int x26, va_rf r29], h27)) rfl rfl rfl ?_
        refine xle_some (fun r_ => (159, [(0, .ref a0), (2, .int xv2), (3, .int xv3), (4, .int x26)], [.int (Int32.ofInt 0), .int x26, va_rf r_], h27)) (fun a30 => ?_)
        refine xle_bast rfl rfl (fun h31 => ?_)
        refine xle_next (i := .aload_n 0) (x' := (161, [(0, .ref a0), (2, .int xv2), (3, .int xv3), (4, .int x26)], [.ref a0], h31)) rfl rfl rfl ?_
        refine xle_next (i := .iload 4) (x' := (163, [(0, .ref a0), (2, .int xv2), (3, .int xv3), (4, .int x26)], [.int x26, .ref a0], h31)) rfl rfl rfl ?_
        refine xle_isO (i := .invokevirtual 146) (bq := a0) (ci := 6) (fo := (f_M_abort z [.ref a0, .int x26] h31).bind (xback 163 [(0, .ref a0), (2, .int xv2), (3, .int xv3), (4, .int x26)] [])) rfl rfl rfl (fun hs => ?_)
        refine xle_clV (t := []) rfl rfl hs (fun h32 => ?_)
        refine xle_next (i := .bipush 7) (x' := (168, [(0, .ref a0), (2, .int xv2), (3, .int xv3), (4, .int x26)], [.int ((Int8.ofInt 7).toInt32)], h32)) rfl rfl rfl ?_
        refine xle_next (i := .istore 5) (x' := (170, [(0, .ref a0), (2, .int xv2), (3, .int xv3), (4, .int x26), (5, .int ((Int8.ofInt 7).toInt32))], [], h32)) rfl rfl rfl ?_
        exact xle_jump rfl
      · refine xle_next (i := .goto (-135)) (x' := (14, [(0, .ref a0), (2, .int xv2), (3, .int xv3), (4, .int x26)], [], h27)) rfl rfl rfl ?_
        exact xle_jump rfl
  · refine xle_next (i := .aload_n 0) (x' := (87, [(0, .ref a0), (2, .int xv2), (3, .int xv3), (4, .int xv4)], [.ref a0], h)) rfl rfl rfl ?_
    refine xle_getR (f := (6, 12, .array .boolean, 0)) rfl rfl rfl (fun r33 => ?_)
    refine xle_next (i := .iload 4) (x' := (92, [(0, .ref a0), (2, .int xv2), (3, .int xv3), (4, .int xv4)], [.int xv4, va_rf r33], h)) rfl rfl rfl ?_
    refine xle_some (fun r_ => (92, [(0, .ref a0), (2, .int xv2), (3, .int xv3), (4, .int xv4)], [.int xv4, va_rf r_], h)) (fun a34 => ?_)
    refine xle_bald rfl rfl (fun x35 => ?_)
    refine xle_if (cd := .eq) (q := 120) rfl rfl rfl xc_eq (fun _ => ?_) (fun _ => ?_)
    · exact xle_jump rfl
    · refine xle_next (i := .aload_n 0) (x' := (97, [(0, .ref a0), (2, .int xv2), (3, .int xv3), (4, .int xv4)], [.ref a0], h)) rfl rfl rfl ?_
      refine xle_getR (f := (6, 11, .array .int, 0)) rfl rfl rfl (fun r36 => ?_)
      refine xle_next (i := .iload 4) (x' := (102, [(0, .ref a0), (2, .int xv2), (3, .int xv3), (4, .int xv4)], [.int xv4, va_rf r36], h)) rfl rfl rfl ?_
      refine xle_some (fun r_ => (102, [(0, .ref a0), (2, .int xv2), (3, .int xv3), (4, .int xv4)], [.int xv4, va_rf r_], h)) (fun a37 => ?_)
      refine xle_iald rfl rfl (fun x38 => ?_)
      refine xle_next (i := .iload_n 3) (x' := (104, [(0, .ref a0), (2, .int xv2), (3, .int xv3), (4, .int xv4)], [.int xv3, .int x38], h)) rfl rfl rfl ?_
      refine xle_icmp (cd := .ne) (q := 120) rfl rfl rfl xc_ne (fun _ => ?_) (fun _ => ?_)
      · exact xle_jump rfl
      · refine xle_next (i := .aload_n 0) (x' := (108, [(0, .ref a0), (2, .int xv2), (3, .int xv3), (4, .int xv4)], [.ref a0], h)) rfl rfl rfl ?_
        refine xle_getR (f := (6, 11, .array .int, 0)) rfl rfl rfl (fun r39 => ?_)
        refine xle_next (i := .iload 4) (x' := (113, [(0, .ref a0), (2, .int xv2), (3, .int xv3), (4, .int xv4)], [.int xv4, va_rf r39], h)) rfl rfl rfl ?_
        refine xle_next (i := .aload_n 0) (x' := (114, [(0, .ref a0), (2, .int xv2), (3, .int xv3), (4, .int xv4)], [.ref a0, .int xv4, va_rf r39], h)) rfl rfl rfl ?_
        refine xle_getR (f := (6, 11, .array .int, 0)) rfl rfl rfl (fun r40 => ?_)
        refine xle_next (i := .iload_n 3) (x' := (118, [(0, .ref a0), (2, .int xv2), (3, .int xv3), (4, .int xv4)], [.int xv3, va_rf r40, .int xv4, va_rf r39], h)) rfl rfl rfl ?_
        refine xle_some (fun r_ => (118, [(0, .ref a0), (2, .int xv2), (3, .int xv3), (4, .int xv4)], [.int xv3, va_rf r_, .int xv4, va_rf r39], h)) (fun a41 => ?_)
        refine xle_iald rfl rfl (fun x42 => ?_)
        refine xle_some (fun r_ => (119, [(0, .ref a0), (2, .int xv2), (3, .int xv3), (4, .int xv4)], [.int x42, .int xv4, va_rf r_], h)) (fun a43 => ?_)
        refine xle_iast rfl rfl (fun h44 => ?_)
        exact xle_jump rfl
noncomputable def D_M_drop_170 (z : xzs) (a0 : Nat) (xv2 : Int32) (xv4 : Int32) (xv5 : Int32) (h : xH) : Option xR :=
  if xv5 < 0 then
    B_M_drop_243 z a0 xv2 h
  else
    (rdR h a0 6 1).bind fun r45 =>
    r45.bind fun a46 =>
    (rdA 0 h a46 xv4).bind fun x47 =>
    if ¬ x47 = (Int32.ofInt 3) then
      B_M_drop_243 z a0 xv2 h
    else
      (rdR h a0 6 14).bind fun r48 =>
      r48.bind fun a49 =>
      (rdA 0 h a49 ((((Int8.ofInt 8).toInt32) * xv4) + xv5)).bind fun x50 =>
      if ¬ x50 = 0 then
        (rdR h a0 6 32).bind fun r51 =>
        (rdI h a0 6 33).bind fun x52 =>
        (rdR h a0 6 14).bind fun r53 =>
        r53.bind fun a54 =>
        (rdA 0 h a54 ((((Int8.ofInt 8).toInt32) * xv4) + xv5)).bind fun x55 =>
        r51.bind fun a56 =>
        (wrI h a56 x52 x55).bind fun h57 =>
        (rdI h57 a0 6 33).bind fun x58 =>
        (xwr h57 a0 6 33 (.int (x58 + (Int32.ofInt 1)))).bind fun h59 =>
        B_M_drop_237 z a0 xv2 xv4 xv5 h59
      else
        B_M_drop_237 z a0 xv2 xv4 xv5 h
set_option maxRecDepth 20000 in
theorem E_M_drop_170 (z : xzs) (a0 : Nat) (xv2 : Int32) (xv4 : Int32) (xv5 : Int32) (h : xH) : xle (D_M_drop_170 z a0 xv2 xv4 xv5 h) (B_M_drop_170 z a0 xv2 xv4 xv5 h) := by
  unfold D_M_drop_170 B_M_drop_170
  refine xle_next (i := .iload 5) (x' := (172, [(0, .ref a0), (2, .int xv2), (4, .int xv4), (5, .int xv5)], [.int xv5], h)) rfl rfl rfl ?_
  refine xle_if (cd := .lt) (q := 243) rfl rfl rfl xc_lt (fun _ => ?_) (fun _ => ?_)
  · exact xle_jump rfl
  · refine xle_next (i := .aload_n 0) (x' := (176, [(0, .ref a0), (2, .int xv2), (4, .int xv4), (5, .int xv5)], [.ref a0], h)) rfl rfl rfl ?_
    refine xle_getR (f := (6, 1, .array .int, 0)) rfl rfl rfl (fun r45 => ?_)
    refine xle_next (i := .iload 4) (x' := (181, [(0, .ref a0), (2, .int xv2), (4, .int xv4), (5, .int xv5)], [.int xv4, va_rf r45], h)) rfl rfl rfl ?_
    refine xle_some (fun r_ => (181, [(0, .ref a0), (2, .int xv2), (4, .int xv4), (5, .int xv5)], [.int xv4, va_rf r_], h)) (fun a46 => ?_)
    refine xle_iald rfl rfl (fun x47 => ?_)
    refine xle_next (i := .iconst 3) (x' := (183, [(0, .ref a0), (2, .int xv2), (4, .int xv4), (5, .int xv5)], [.int (Int32.ofInt 3), .int x47], h)) rfl rfl rfl ?_
    refine xle_icmp (cd := .ne) (q := 243) rfl rfl rfl xc_ne (fun _ => ?_) (fun _ => ?_)
    · exact xle_jump rfl
    · refine xle_next (i := .aload_n 0) (x' := (187, [(0, .ref a0), (2, .int xv2), (4, .int xv4), (5, .int xv5)], [.ref a0], h)) rfl rfl rfl ?_
      refine xle_getR (f := (6, 14, .array .int, 0)) rfl rfl rfl (fun r48 => ?_)
      refine xle_next (i := .bipush 8) (x' := (192, [(0, .ref a0), (2, .int xv2), (4, .int xv4), (5, .int xv5)], [.int ((Int8.ofInt 8).toInt32), va_rf r48], h)) rfl rfl rfl ?_
      refine xle_next (i := .iload 4) (x' := (194, [(0, .ref a0), (2, .int xv2), (4, .int xv4), (5, .int xv5)], [.int xv4, .int ((Int8.ofInt 8).toInt32), va_rf r48], h)) rfl rfl rfl ?_
      refine xle_next (i := .imul) (x' := (195, [(0, .ref a0), (2, .int xv2), (4, .int xv4), (5, .int xv5)], [.int (((Int8.ofInt 8).toInt32) * xv4), va_rf r48], h)) rfl rfl rfl ?_
      refine xle_next (i := .iload 5) (x' := (197, [(0, .ref a0), (2, .int xv2), (4, .int xv4), (5, .int xv5)], [.int xv5, .int (((Int8.ofInt 8).toInt32) * xv4), va_rf r48], h)) rfl rfl rfl ?_
      refine xle_next (i := .iadd) (x' := (198, [(0, .ref a0), (2, .int xv2), (4, .int xv4), (5, .int xv5)], [.int ((((Int8.ofInt 8).toInt32) * xv4) + xv5), va_rf r48], h)) rfl rfl rfl ?_
      refine xle_some (fun r_ => (198, [(0, .ref a0), (2, .int xv2), (4, .int xv4), (5, .int xv5)], [.int ((((Int8.ofInt 8).toInt32) * xv4) + xv5), va_rf r_], h)) (fun a49 => ?_)
      refine xle_iald rfl rfl (fun x50 => ?_)
      refine xle_if (cd := .ne) (q := 205) rfl rfl rfl xc_ne (fun _ => ?_) (fun _ => ?_)
      · refine xle_next (i := .aload_n 0) (x' := (206, [(0, .ref a0), (2, .int xv2), (4, .int xv4), (5, .int xv5)], [.ref a0], h)) rfl rfl rfl ?_
        refine xle_getR (f := (6, 32, .array .int, 0)) rfl rfl rfl (fun r51 => ?_)
        refine xle_next (i := .aload_n 0) (x' := (210, [(0, .ref a0), (2, .int xv2), (4, .int xv4), (5, .int xv5)], [.ref a0, va_rf r51], h)) rfl rfl rfl ?_
        refine xle_getI (f := (6, 33, .int, 1)) rfl rfl rfl (fun x52 => ?_)
        refine xle_next (i := .aload_n 0) (x' := (214, [(0, .ref a0), (2, .int xv2), (4, .int xv4), (5, .int xv5)], [.ref a0, .int x52, va_rf r51], h)) rfl rfl rfl ?_
        refine xle_getR (f := (6, 14, .array .int, 0)) rfl rfl rfl (fun r53 => ?_)
        refine xle_next (i := .bipush 8) (x' := (219, [(0, .ref a0), (2, .int xv2), (4, .int xv4), (5, .int xv5)], [.int ((Int8.ofInt 8).toInt32), va_rf r53, .int x52, va_rf r51], h)) rfl rfl rfl ?_
        refine xle_next (i := .iload 4) (x' := (221, [(0, .ref a0), (2, .int xv2), (4, .int xv4), (5, .int xv5)], [.int xv4, .int ((Int8.ofInt 8).toInt32), va_rf r53, .int x52, va_rf r51], h)) rfl rfl rfl ?_
        refine xle_next (i := .imul) (x' := (222, [(0, .ref a0), (2, .int xv2), (4, .int xv4), (5, .int xv5)], [.int (((Int8.ofInt 8).toInt32) * xv4), va_rf r53, .int x52, va_rf r51], h)) rfl rfl rfl ?_
        refine xle_next (i := .iload 5) (x' := (224, [(0, .ref a0), (2, .int xv2), (4, .int xv4), (5, .int xv5)], [.int xv5, .int (((Int8.ofInt 8).toInt32) * xv4), va_rf r53, .int x52, va_rf r51], h)) rfl rfl rfl ?_
        refine xle_next (i := .iadd) (x' := (225, [(0, .ref a0), (2, .int xv2), (4, .int xv4), (5, .int xv5)], [.int ((((Int8.ofInt 8).toInt32) * xv4) + xv5), va_rf r53, .int x52, va_rf r51], h)) rfl rfl rfl ?_
        refine xle_some (fun r_ => (225, [(0, .ref a0), (2, .int xv2), (4, .int xv4), (5, .int xv5)], [.int ((((Int8.ofInt 8).toInt32) * xv4) + xv5), va_rf r_, .int x52, va_rf r51], h)) (fun a54 => ?_)
        refine xle_iald rfl rfl (fun x55 => ?_)
        refine xle_some (fun r_ => (226, [(0, .ref a0), (2, .int xv2), (4, .int xv4), (5, .int xv5)], [.int x55, .int x52, va_rf r_], h)) (fun a56 => ?_)
        refine xle_iast rfl rfl (fun h57 => ?_)
        refine xle_next (i := .aload_n 0) (x' := (228, [(0, .ref a0), (2, .int xv2), (4, .int xv4), (5, .int xv5)], [.ref a0], h57)) rfl rfl rfl ?_
        refine xle_next (i := .dup) (x' := (229, [(0, .ref a0), (2, .int xv2), (4, .int xv4), (5, .int xv5)], [.ref a0, .ref a0], h57)) rfl rfl rfl ?_
        refine xle_getI (f := (6, 33, .int, 1)) rfl rfl rfl (fun x58 => ?_)
        refine xle_next (i := .iconst 1) (x' := (233, [(0, .ref a0), (2, .int xv2), (4, .int xv4), (5, .int xv5)], [.int (Int32.ofInt 1), .int x58, .ref a0], h57)) rfl rfl rfl ?_
        refine xle_next (i := .iadd) (x' := (234, [(0, .ref a0), (2, .int xv2), (4, .int xv4), (5, .int xv5)], [.int (x58 + (Int32.ofInt 1)), .ref a0], h57)) rfl rfl rfl ?_
        refine xle_put (v := .int (x58 + (Int32.ofInt 1))) (f := (6, 33, .int, 1)) rfl rfl rfl ⟨by decide, rfl, rfl⟩ (fun h59 => ?_)
        exact xle_jump rfl
      · refine xle_next (i := .goto 35) (x' := (237, [(0, .ref a0), (2, .int xv2), (4, .int xv4), (5, .int xv5)], [], h)) rfl rfl rfl ?_
        exact xle_jump rfl
noncomputable def D_M_drop_120 (z : xzs) (a0 : Nat) (xv2 : Int32) (xv3 : Int32) (xv4 : Int32) (h : xH) : Option xR :=
  B_M_drop_77 z a0 xv2 xv3 (xv4 + Int32.ofInt 1) h
set_option maxRecDepth 20000 in
theorem E_M_drop_120 (z : xzs) (a0 : Nat) (xv2 : Int32) (xv3 : Int32) (xv4 : Int32) (h : xH) : xle (D_M_drop_120 z a0 xv2 xv3 xv4 h) (B_M_drop_120 z a0 xv2 xv3 xv4 h) := by
  unfold D_M_drop_120 B_M_drop_120
  refine xle_next (i := .iinc 4 1) (x' := (123, [(0, .ref a0), (2, .int xv2), (3, .int xv3), (4, .int (xv4 + Int32.ofInt 1))], [], h)) rfl rfl rfl ?_
  refine xle_next (i := .goto (-46)) (x' := (77, [(0, .ref a0), (2, .int xv2), (3, .int xv3), (4, .int (xv4 + Int32.ofInt 1))], [], h)) rfl rfl rfl ?_
  exact xle_jump rfl
noncomputable def D_M_drop_243 (z : xzs) (a0 : Nat) (xv2 : Int32) (h : xH) : Option xR :=
  B_M_drop_14 z a0 xv2 h
set_option maxRecDepth 20000 in
theorem E_M_drop_243 (z : xzs) (a0 : Nat) (xv2 : Int32) (h : xH) : xle (D_M_drop_243 z a0 xv2 h) (B_M_drop_243 z a0 xv2 h) := by
  unfold D_M_drop_243 B_M_drop_243
  refine xle_next (i := .goto (-229)) (x' := (14, [(0, .ref a0), (2, .int xv2)], [], h)) rfl rfl rfl ?_
  exact xle_jump rfl
noncomputable def D_M_drop_237 (z : xzs) (a0 : Nat) (xv2 : Int32) (xv4 : Int32) (xv5 : Int32) (h : xH) : Option xR :=
  B_M_drop_170 z a0 xv2 xv4 (xv5 + Int32.ofInt (-1)) h
set_option maxRecDepth 20000 in
theorem E_M_drop_237 (z : xzs) (a0 : Nat) (xv2 : Int32) (xv4 : Int32) (xv5 : Int32) (h : xH) : xle (D_M_drop_237 z a0 xv2 xv4 xv5 h) (B_M_drop_237 z a0 xv2 xv4 xv5 h) := by
  unfold D_M_drop_237 B_M_drop_237
  refine xle_next (i := .iinc 5 (-1)) (x' := (240, [(0, .ref a0), (2, .int xv2), (4, .int xv4), (5, .int (xv5 + Int32.ofInt (-1)))], [], h)) rfl rfl rfl ?_
  refine xle_next (i := .goto (-70)) (x' := (170, [(0, .ref a0), (2, .int xv2), (4, .int xv4), (5, .int (xv5 + Int32.ofInt (-1)))], [], h)) rfl rfl rfl ?_
  exact xle_jump rfl
noncomputable def B_M_cameOf_7 (z : xzs) (a0 : Nat) (xv2 : Int32) (xv3 : Int32) (h : xH) : Option xR := xev (K_M_cameOf z) (7, [(0, .ref a0), (2, .int xv2), (3, .int xv3)], [], h)
noncomputable def B_M_cameOf_26 (z : xzs) (xv2 : Int32) (xv3 : Int32) (h : xH) : Option xR := xev (K_M_cameOf z) (26, [(2, .int xv2), (3, .int xv3)], [], h)
noncomputable def B_M_cameOf_36 (z : xzs) (xs0 : Int32) (h : xH) : Option xR := xev (K_M_cameOf z) (36, [], [.int xs0], h)
noncomputable def D_M_cameOf_0 (z : xzs) (a0 : Nat) (p1 : Int32) (p2 : Int32) (h : xH) : Option xR :=
  (rdR h a0 6 11).bind fun r1 =>
  r1.bind fun a2 =>
  (rdA 0 h a2 p1).bind fun x3 =>
  B_M_cameOf_7 z a0 p2 x3 h
set_option maxRecDepth 20000 in
theorem E_M_cameOf (z : xzs) (a0 : Nat) (p1 : Int32) (p2 : Int32) (h : xH) : xle (D_M_cameOf_0 z a0 p1 p2 h) (xfun (K_M_cameOf z) 4 [.ref a0, .int p1, .int p2] h) := by
  unfold D_M_cameOf_0
  refine xle_entry (Nat.le_of_ble_eq_true rfl) (xal_c (xca_a _) (xal_c (xca_i _) (xal_c (xca_i _) (rfl)))) ?_
  show xle _ (xev (K_M_cameOf z) (0, [(0, .ref a0), (1, .int p1), (2, .int p2)], [], h))
  refine xle_next (i := .aload_n 0) (x' := (1, [(0, .ref a0), (1, .int p1), (2, .int p2)], [.ref a0], h)) rfl rfl rfl ?_
  refine xle_getR (f := (6, 11, .array .int, 0)) rfl rfl rfl (fun r1 => ?_)
  refine xle_next (i := .iload_n 1) (x' := (5, [(0, .ref a0), (1, .int p1), (2, .int p2)], [.int p1, va_rf r1], h)) rfl rfl rfl ?_
  refine xle_some (fun r_ => (5, [(0, .ref a0), (1, .int p1), (2, .int p2)], [.int p1, va_rf r_], h)) (fun a2 => ?_)
  refine xle_iald rfl rfl (fun x3 => ?_)
  refine xle_next (i := .istore_n 3) (x' := (7, [(0, .ref a0), (1, .int p1), (2, .int p2), (3, .int x3)], [], h)) rfl rfl rfl ?_
  exact xle_jump rfl
noncomputable def D_M_cameOf_7 (z : xzs) (a0 : Nat) (xv2 : Int32) (xv3 : Int32) (h : xH) : Option xR :=
  if xv3 ≤ 0 then
    B_M_cameOf_26 z xv2 xv3 h
  else
    if xv3 = xv2 then
      B_M_cameOf_26 z xv2 xv3 h
    else
      (rdR h a0 6 11).bind fun r4 =>
      r4.bind fun a5 =>
      (rdA 0 h a5 xv3).bind fun x6 =>
      B_M_cameOf_7 z a0 xv2 x6 h
set_option maxRecDepth 20000 in
theorem E_M_cameOf_7 (z : xzs) (a0 : Nat) (xv2 : Int32) (xv3 : Int32) (h : xH) : xle (D_M_cameOf_7 z a0 xv2 xv3 h) (B_M_cameOf_7 z a0 xv2 xv3 h) := by
  unfold D_M_cameOf_7 B_M_cameOf_7
  refine xle_next (i := .iload_n 3) (x' := (8, [(0, .ref a0), (2, .int xv2), (3, .int xv3)], [.int xv3], h)) rfl rfl rfl ?_
  refine xle_if (cd := .le) (q := 26) rfl rfl rfl xc_le (fun _ => ?_) (fun _ => ?_)
  · exact xle_jump rfl
  · refine xle_next (i := .iload_n 3) (x' := (12, [(0, .ref a0), (2, .int xv2), (3, .int xv3)], [.int xv3], h)) rfl rfl rfl ?_
    refine xle_next (i := .iload_n 2) (x' := (13, [(0, .ref a0), (2, .int xv2), (3, .int xv3)], [.int xv2, .int xv3], h)) rfl rfl rfl ?_
    refine xle_icmp (cd := .eq) (q := 26) rfl rfl rfl xc_eq (fun _ => ?_) (fun _ => ?_)
    · exact xle_jump rfl
    · refine xle_next (i := .aload_n 0) (x' := (17, [(0, .ref a0), (2, .int xv2), (3, .int xv3)], [.ref a0], h)) rfl rfl rfl ?_
      refine xle_getR (f := (6, 11, .array .int, 0)) rfl rfl rfl (fun r4 => ?_)
      refine xle_next (i := .iload_n 3) (x' := (21, [(0, .ref a0), (2, .int xv2), (3, .int xv3)], [.int xv3, va_rf r4], h)) rfl rfl rfl ?_
      refine xle_some (fun r_ => (21, [(0, .ref a0), (2, .int xv2), (3, .int xv3)], [.int xv3, va_rf r_], h)) (fun a5 => ?_)
      refine xle_iald rfl rfl (fun x6 => ?_)
      refine xle_next (i := .istore_n 3) (x' := (23, [(0, .ref a0), (2, .int xv2), (3, .int x6)], [], h)) rfl rfl rfl ?_
      refine xle_next (i := .goto (-16)) (x' := (7, [(0, .ref a0), (2, .int xv2), (3, .int x6)], [], h)) rfl rfl rfl ?_
      exact xle_jump rfl
noncomputable def D_M_cameOf_26 (z : xzs) (xv2 : Int32) (xv3 : Int32) (h : xH) : Option xR :=
  if ¬ xv3 = xv2 then
    B_M_cameOf_36 z (Int32.ofInt 0) h
  else
    B_M_cameOf_36 z (Int32.ofInt 1) h
set_option maxRecDepth 20000 in
theorem E_M_cameOf_26 (z : xzs) (xv2 : Int32) (xv3 : Int32) (h : xH) : xle (D_M_cameOf_26 z xv2 xv3 h) (B_M_cameOf_26 z xv2 xv3 h) := by
  unfold D_M_cameOf_26 B_M_cameOf_26
  refine xle_next (i := .iload_n 3) (x' := (27, [(2, .int xv2), (3, .int xv3)], [.int xv3], h)) rfl rfl rfl ?_
  refine xle_next (i := .iload_n 2) (x' := (28, [(2, .int xv2), (3, .int xv3)], [.int xv2, .int xv3], h)) rfl rfl rfl ?_
  refine xle_icmp (cd := .ne) (q := 35) rfl rfl rfl xc_ne (fun _ => ?_) (fun _ => ?_)
  · refine xle_next (i := .iconst 0) (x' := (36, [(2, .int xv2), (3, .int xv3)], [.int (Int32.ofInt 0)], h)) rfl rfl rfl ?_
    exact xle_jump rfl
  · refine xle_next (i := .iconst 1) (x' := (32, [(2, .int xv2), (3, .int xv3)], [.int (Int32.ofInt 1)], h)) rfl rfl rfl ?_
    refine xle_next (i := .goto 4) (x' := (36, [(2, .int xv2), (3, .int xv3)], [.int (Int32.ofInt 1)], h)) rfl rfl rfl ?_
    exact xle_jump rfl
noncomputable def D_M_cameOf_36 (z : xzs) (xs0 : Int32) (h : xH) : Option xR :=
  if xs0 = 0 ∨ xs0 = 1 then some (.inl (some (.int xs0)), h) else none
set_option maxRecDepth 20000 in
theorem E_M_cameOf_36 (z : xzs) (xs0 : Int32) (h : xH) : xle (D_M_cameOf_36 z xs0 h) (B_M_cameOf_36 z xs0 h) := by
  unfold D_M_cameOf_36 B_M_cameOf_36
  exact xle_zret rfl rfl rfl
noncomputable def B_M_youngest_5 (z : xzs) (a0 : Nat) (xv1 : Int32) (xv2 : Int32) (h : xH) : Option xR := xev (K_M_youngest z) (5, [(0, .ref a0), (1, .int xv1), (2, .int xv2)], [], h)
noncomputable def B_M_youngest_29 (z : xzs) (a0 : Nat) (xv1 : Int32) (xv2 : Int32) (h : xH) : Option xR := xev (K_M_youngest z) (29, [(0, .ref a0), (1, .int xv1), (2, .int xv2)], [], h)
noncomputable def D_M_youngest_0 (z : xzs) (a0 : Nat) (p1 : Int32) (h : xH) : Option xR :=
  (rdI h a0 6 13).bind fun x1 =>
  B_M_youngest_5 z a0 p1 x1 h
set_option maxRecDepth 20000 in
theorem E_M_youngest (z : xzs) (a0 : Nat) (p1 : Int32) (h : xH) : xle (D_M_youngest_0 z a0 p1 h) (xfun (K_M_youngest z) 3 [.ref a0, .int p1] h) := by
  unfold D_M_youngest_0
  refine xle_entry (Nat.le_of_ble_eq_true rfl) (xal_c (xca_a _) (xal_c (xca_i _) (rfl))) ?_
  show xle _ (xev (K_M_youngest z) (0, [(0, .ref a0), (1, .int p1)], [], h))
  refine xle_next (i := .aload_n 0) (x' := (1, [(0, .ref a0), (1, .int p1)], [.ref a0], h)) rfl rfl rfl ?_
  refine xle_getI (f := (6, 13, .int, 1)) rfl rfl rfl (fun x1 => ?_)
  refine xle_next (i := .istore_n 2) (x' := (5, [(0, .ref a0), (1, .int p1), (2, .int x1)], [], h)) rfl rfl rfl ?_
  exact xle_jump rfl
noncomputable def D_M_youngest_5 (z : xzs) (a0 : Nat) (xv1 : Int32) (xv2 : Int32) (h : xH) : Option xR :=
  if xv2 ≤ 0 then
    some (.inl (some (.int (Int32.ofInt 0))), h)
  else
    (rdR h a0 6 12).bind fun r2 =>
    r2.bind fun a3 =>
    (rdA 1 h a3 xv2).bind fun x4 =>
    if x4 = 0 then
      B_M_youngest_29 z a0 xv1 xv2 h
    else
      (xisO h a0 6).bind fun _ => xclI (f_M_cameOf z [.ref a0, .int xv2, .int xv1] h) fun x6 h5 =>
      if x6 = 0 then
        B_M_youngest_29 z a0 xv1 xv2 h5
      else
        some (.inl (some (.int xv2)), h5)
set_option maxRecDepth 20000 in
theorem E_M_youngest_5 (z : xzs) (a0 : Nat) (xv1 : Int32) (xv2 : Int32) (h : xH) : xle (D_M_youngest_5 z a0 xv1 xv2 h) (B_M_youngest_5 z a0 xv1 xv2 h) := by
  unfold D_M_youngest_5 B_M_youngest_5
  refine xle_next (i := .iload_n 2) (x' := (6, [(0, .ref a0), (1, .int xv1), (2, .int xv2)], [.int xv2], h)) rfl rfl rfl ?_
  refine xle_if (cd := .le) (q := 35) rfl rfl rfl xc_le (fun _ => ?_) (fun _ => ?_)
  · refine xle_next (i := .iconst 0) (x' := (36, [(0, .ref a0), (1, .int xv1), (2, .int xv2)], [.int (Int32.ofInt 0)], h)) rfl rfl rfl ?_
    exact xle_end (i := .ireturn) rfl rfl rfl
  · refine xle_next (i := .aload_n 0) (x' := (10, [(0, .ref a0), (1, .int xv1), (2, .int xv2)], [.ref a0], h)) rfl rfl rfl ?_
    refine xle_getR (f := (6, 12, .array .boolean, 0)) rfl rfl rfl (fun r2 => ?_)
    refine xle_next (i := .iload_n 2) (x' := (14, [(0, .ref a0), (1, .int xv1), (2, .int xv2)], [.int xv2, va_rf r2], h)) rfl rfl rfl ?_
    refine xle_some (fun r_ => (14, [(0, .ref a0), (1, .int xv1), (2, .int xv2)], [.int xv2, va_rf r_], h)) (fun a3 => ?_)
    refine xle_bald rfl rfl (fun x4 => ?_)
    refine xle_if (cd := .eq) (q := 29) rfl rfl rfl xc_eq (fun _ => ?_) (fun _ => ?_)
    · exact xle_jump rfl
    · refine xle_next (i := .aload_n 0) (x' := (19, [(0, .ref a0), (1, .int xv1), (2, .int xv2)], [.ref a0], h)) rfl rfl rfl ?_
      refine xle_next (i := .iload_n 2) (x' := (20, [(0, .ref a0), (1, .int xv1), (2, .int xv2)], [.int xv2, .ref a0], h)) rfl rfl rfl ?_
      refine xle_next (i := .iload_n 1) (x' := (21, [(0, .ref a0), (1, .int xv1), (2, .int xv2)], [.int xv1, .int xv2, .ref a0], h)) rfl rfl rfl ?_
      refine xle_isO (i := .invokevirtual 149) (bq := a0) (ci := 6) (fo := (f_M_cameOf z [.ref a0, .int xv2, .int xv1] h).bind (xback 21 [(0, .ref a0), (1, .int xv1), (2, .int xv2)] [])) rfl rfl rfl (fun hs => ?_)
      refine xle_clI (t := []) rfl rfl hs (fun x6 h5 => ?_)
      refine xle_if (cd := .eq) (q := 29) rfl rfl rfl xc_eq (fun _ => ?_) (fun _ => ?_)
      · exact xle_jump rfl
      · refine xle_next (i := .iload_n 2) (x' := (28, [(0, .ref a0), (1, .int xv1), (2, .int xv2)], [.int xv2], h5)) rfl rfl rfl ?_
        exact xle_end (i := .ireturn) rfl rfl rfl
noncomputable def D_M_youngest_29 (z : xzs) (a0 : Nat) (xv1 : Int32) (xv2 : Int32) (h : xH) : Option xR :=
  B_M_youngest_5 z a0 xv1 (xv2 + Int32.ofInt (-1)) h
set_option maxRecDepth 20000 in
theorem E_M_youngest_29 (z : xzs) (a0 : Nat) (xv1 : Int32) (xv2 : Int32) (h : xH) : xle (D_M_youngest_29 z a0 xv1 xv2 h) (B_M_youngest_29 z a0 xv1 xv2 h) := by
  unfold D_M_youngest_29 B_M_youngest_29
  refine xle_next (i := .iinc 2 (-1)) (x' := (32, [(0, .ref a0), (1, .int xv1), (2, .int (xv2 + Int32.ofInt (-1)))], [], h)) rfl rfl rfl ?_
  refine xle_next (i := .goto (-27)) (x' := (5, [(0, .ref a0), (1, .int xv1), (2, .int (xv2 + Int32.ofInt (-1)))], [], h)) rfl rfl rfl ?_
  exact xle_jump rfl
noncomputable def B_M_begins_37 (z : xzs) (a0 : Nat) (h : xH) : Option xR := xev (K_M_begins z) (37, [(0, .ref a0)], [], h)
noncomputable def B_M_begins_49 (z : xzs) (xs0 : Int32) (h : xH) : Option xR := xev (K_M_begins z) (49, [], [.int xs0], h)
noncomputable def D_M_begins_0 (z : xzs) (a0 : Nat) (p1 : Int32) (h : xH) : Option xR :=
  (xwr h a0 6 0 (.int (Int32.ofInt 0))).bind fun h1 =>
  (xisO h1 a0 6).bind fun _ => xclI (f_M_now z [.ref a0] h1) fun x3 h2 =>
  (xwr h2 a0 6 38 (.int x3)).bind fun h4 =>
  (rdI h4 a0 6 38).bind fun x5 =>
  if ¬ x5 = 0 then
    if ¬ p1 = 0 then
      B_M_begins_37 z a0 h4
    else
      (xwr h4 a0 6 0 (.int (Int32.ofInt 1))).bind fun h6 =>
      B_M_begins_37 z a0 h6
  else
    (xwr h4 a0 6 0 (.int (Int32.ofInt 4))).bind fun h7 =>
    B_M_begins_37 z a0 h7
set_option maxRecDepth 20000 in
theorem E_M_begins (z : xzs) (a0 : Nat) (p1 : Int32) (h : xH) : xle (D_M_begins_0 z a0 p1 h) (xfun (K_M_begins z) 2 [.ref a0, .int p1] h) := by
  unfold D_M_begins_0
  refine xle_entry (Nat.le_of_ble_eq_true rfl) (xal_c (xca_a _) (xal_c (xca_i _) (rfl))) ?_
  show xle _ (xev (K_M_begins z) (0, [(0, .ref a0), (1, .int p1)], [], h))
  refine xle_next (i := .aload_n 0) (x' := (1, [(0, .ref a0), (1, .int p1)], [.ref a0], h)) rfl rfl rfl ?_
  refine xle_next (i := .iconst 0) (x' := (2, [(0, .ref a0), (1, .int p1)], [.int (Int32.ofInt 0), .ref a0], h)) rfl rfl rfl ?_
  refine xle_put (v := .int (Int32.ofInt 0)) (f := (6, 0, .int, 1)) rfl rfl rfl ⟨by decide, rfl, rfl⟩ (fun h1 => ?_)
  refine xle_next (i := .aload_n 0) (x' := (6, [(0, .ref a0), (1, .int p1)], [.ref a0], h1)) rfl rfl rfl ?_
  refine xle_next (i := .aload_n 0) (x' := (7, [(0, .ref a0), (1, .int p1)], [.ref a0, .ref a0], h1)) rfl rfl rfl ?_
  refine xle_isO (i := .invokevirtual 153) (bq := a0) (ci := 6) (fo := (f_M_now z [.ref a0] h1).bind (xback 7 [(0, .ref a0), (1, .int p1)] [.ref a0])) rfl rfl rfl (fun hs => ?_)
  refine xle_clI (t := [.ref a0]) rfl rfl hs (fun x3 h2 => ?_)
  refine xle_put (v := .int x3) (f := (6, 38, .int, 1)) rfl rfl rfl ⟨by decide, rfl, rfl⟩ (fun h4 => ?_)
  refine xle_next (i := .aload_n 0) (x' := (14, [(0, .ref a0), (1, .int p1)], [.ref a0], h4)) rfl rfl rfl ?_
  refine xle_getI (f := (6, 38, .int, 1)) rfl rfl rfl (fun x5 => ?_)
  refine xle_if (cd := .ne) (q := 28) rfl rfl rfl xc_ne (fun _ => ?_) (fun _ => ?_)
  · refine xle_next (i := .iload_n 1) (x' := (29, [(0, .ref a0), (1, .int p1)], [.int p1], h4)) rfl rfl rfl ?_
    refine xle_if (cd := .ne) (q := 37) rfl rfl rfl xc_ne (fun _ => ?_) (fun _ => ?_)
    · exact xle_jump rfl
    · refine xle_next (i := .aload_n 0) (x' := (33, [(0, .ref a0), (1, .int p1)], [.ref a0], h4)) rfl rfl rfl ?_
      refine xle_next (i := .iconst 1) (x' := (34, [(0, .ref a0), (1, .int p1)], [.int (Int32.ofInt 1), .ref a0], h4)) rfl rfl rfl ?_
      refine xle_put (v := .int (Int32.ofInt 1)) (f := (6, 0, .int, 1)) rfl rfl rfl ⟨by decide, rfl, rfl⟩ (fun h6 => ?_)
      exact xle_jump rfl
  · refine xle_next (i := .aload_n 0) (x' := (21, [(0, .ref a0), (1, .int p1)], [.ref a0], h4)) rfl rfl rfl ?_
    refine xle_next (i := .iconst 4) (x' := (22, [(0, .ref a0), (1, .int p1)], [.int (Int32.ofInt 4), .ref a0], h4)) rfl rfl rfl ?_
    refine xle_put (v := .int (Int32.ofInt 4)) (f := (6, 0, .int, 1)) rfl rfl rfl ⟨by decide, rfl, rfl⟩ (fun h7 => ?_)
    refine xle_next (i := .goto 12) (x' := (37, [(0, .ref a0), (1, .int p1)], [], h7)) rfl rfl rfl ?_
    exact xle_jump rfl
noncomputable def D_M_begins_37 (z : xzs) (a0 : Nat) (h : xH) : Option xR :=
  (rdI h a0 6 0).bind fun x8 =>
  if ¬ x8 = 0 then
    B_M_begins_49 z (Int32.ofInt 0) h
  else
    B_M_begins_49 z (Int32.ofInt 1) h
set_option maxRecDepth 20000 in
theorem E_M_begins_37 (z : xzs) (a0 : Nat) (h : xH) : xle (D_M_begins_37 z a0 h) (B_M_begins_37 z a0 h) := by
  unfold D_M_begins_37 B_M_begins_37
  refine xle_next (i := .aload_n 0) (x' := (38, [(0, .ref a0)], [.ref a0], h)) rfl rfl rfl ?_
  refine xle_getI (f := (6, 0, .int, 1)) rfl rfl rfl (fun x8 => ?_)
  refine xle_if (cd := .ne) (q := 48) rfl rfl rfl xc_ne (fun _ => ?_) (fun _ => ?_)
  · refine xle_next (i := .iconst 0) (x' := (49, [(0, .ref a0)], [.int (Int32.ofInt 0)], h)) rfl rfl rfl ?_
    exact xle_jump rfl
  · refine xle_next (i := .iconst 1) (x' := (45, [(0, .ref a0)], [.int (Int32.ofInt 1)], h)) rfl rfl rfl ?_
    refine xle_next (i := .goto 4) (x' := (49, [(0, .ref a0)], [.int (Int32.ofInt 1)], h)) rfl rfl rfl ?_
    exact xle_jump rfl
noncomputable def D_M_begins_49 (z : xzs) (xs0 : Int32) (h : xH) : Option xR :=
  if xs0 = 0 ∨ xs0 = 1 then some (.inl (some (.int xs0)), h) else none
set_option maxRecDepth 20000 in
theorem E_M_begins_49 (z : xzs) (xs0 : Int32) (h : xH) : xle (D_M_begins_49 z xs0 h) (B_M_begins_49 z xs0 h) := by
  unfold D_M_begins_49 B_M_begins_49
  exact xle_zret rfl rfl rfl
noncomputable def B_M_has_25 (z : xzs) (a0 : Nat) (h : xH) : Option xR := xev (K_M_has z) (25, [(0, .ref a0)], [], h)
noncomputable def B_M_has_37 (z : xzs) (xs0 : Int32) (h : xH) : Option xR := xev (K_M_has z) (37, [], [.int xs0], h)
noncomputable def D_M_has_0 (z : xzs) (a0 : Nat) (p1 : Int32) (h : xH) : Option xR :=
  (rdI h a0 6 38).bind fun x1 =>
  (xisO h a0 6).bind fun _ => xclI (f_M_capability z [.ref a0, .int x1, .int p1] h) fun x3 h2 =>
  (xwr h2 a0 6 39 (.int x3)).bind fun h4 =>
  (rdI h4 a0 6 39).bind fun x5 =>
  if ¬ x5 = 0 then
    B_M_has_25 z a0 h4
  else
    (xwr h4 a0 6 0 (.int (Int32.ofInt 2))).bind fun h6 =>
    B_M_has_25 z a0 h6
set_option maxRecDepth 20000 in
theorem E_M_has (z : xzs) (a0 : Nat) (p1 : Int32) (h : xH) : xle (D_M_has_0 z a0 p1 h) (xfun (K_M_has z) 2 [.ref a0, .int p1] h) := by
  unfold D_M_has_0
  refine xle_entry (Nat.le_of_ble_eq_true rfl) (xal_c (xca_a _) (xal_c (xca_i _) (rfl))) ?_
  show xle _ (xev (K_M_has z) (0, [(0, .ref a0), (1, .int p1)], [], h))
  refine xle_next (i := .aload_n 0) (x' := (1, [(0, .ref a0), (1, .int p1)], [.ref a0], h)) rfl rfl rfl ?_
  refine xle_next (i := .aload_n 0) (x' := (2, [(0, .ref a0), (1, .int p1)], [.ref a0, .ref a0], h)) rfl rfl rfl ?_
  refine xle_next (i := .aload_n 0) (x' := (3, [(0, .ref a0), (1, .int p1)], [.ref a0, .ref a0, .ref a0], h)) rfl rfl rfl ?_
  refine xle_getI (f := (6, 38, .int, 1)) rfl rfl rfl (fun x1 => ?_)
  refine xle_next (i := .iload_n 1) (x' := (7, [(0, .ref a0), (1, .int p1)], [.int p1, .int x1, .ref a0, .ref a0], h)) rfl rfl rfl ?_
  refine xle_isO (i := .invokevirtual 160) (bq := a0) (ci := 6) (fo := (f_M_capability z [.ref a0, .int x1, .int p1] h).bind (xback 7 [(0, .ref a0), (1, .int p1)] [.ref a0])) rfl rfl rfl (fun hs => ?_)
  refine xle_clI (t := [.ref a0]) rfl rfl hs (fun x3 h2 => ?_)
  refine xle_put (v := .int x3) (f := (6, 39, .int, 1)) rfl rfl rfl ⟨by decide, rfl, rfl⟩ (fun h4 => ?_)
  refine xle_next (i := .aload_n 0) (x' := (14, [(0, .ref a0), (1, .int p1)], [.ref a0], h4)) rfl rfl rfl ?_
  refine xle_getI (f := (6, 39, .int, 1)) rfl rfl rfl (fun x5 => ?_)
  refine xle_if (cd := .ne) (q := 25) rfl rfl rfl xc_ne (fun _ => ?_) (fun _ => ?_)
  · exact xle_jump rfl
  · refine xle_next (i := .aload_n 0) (x' := (21, [(0, .ref a0), (1, .int p1)], [.ref a0], h4)) rfl rfl rfl ?_
    refine xle_next (i := .iconst 2) (x' := (22, [(0, .ref a0), (1, .int p1)], [.int (Int32.ofInt 2), .ref a0], h4)) rfl rfl rfl ?_
    refine xle_put (v := .int (Int32.ofInt 2)) (f := (6, 0, .int, 1)) rfl rfl rfl ⟨by decide, rfl, rfl⟩ (fun h6 => ?_)
    exact xle_jump rfl
noncomputable def D_M_has_25 (z : xzs) (a0 : Nat) (h : xH) : Option xR :=
  (rdI h a0 6 0).bind fun x7 =>
  if ¬ x7 = 0 then
    B_M_has_37 z (Int32.ofInt 0) h
  else
    B_M_has_37 z (Int32.ofInt 1) h
set_option maxRecDepth 20000 in
theorem E_M_has_25 (z : xzs) (a0 : Nat) (h : xH) : xle (D_M_has_25 z a0 h) (B_M_has_25 z a0 h) := by
  unfold D_M_has_25 B_M_has_25
  refine xle_next (i := .aload_n 0) (x' := (26, [(0, .ref a0)], [.ref a0], h)) rfl rfl rfl ?_
  refine xle_getI (f := (6, 0, .int, 1)) rfl rfl rfl (fun x7 => ?_)
  refine xle_if (cd := .ne) (q := 36) rfl rfl rfl xc_ne (fun _ => ?_) (fun _ => ?_)
  · refine xle_next (i := .iconst 0) (x' := (37, [(0, .ref a0)], [.int (Int32.ofInt 0)], h)) rfl rfl rfl ?_
    exact xle_jump rfl
  · refine xle_next (i := .iconst 1) (x' := (33, [(0, .ref a0)], [.int (Int32.ofInt 1)], h)) rfl rfl rfl ?_
    refine xle_next (i := .goto 4) (x' := (37, [(0, .ref a0)], [.int (Int32.ofInt 1)], h)) rfl rfl rfl ?_
    exact xle_jump rfl
noncomputable def D_M_has_37 (z : xzs) (xs0 : Int32) (h : xH) : Option xR :=
  if xs0 = 0 ∨ xs0 = 1 then some (.inl (some (.int xs0)), h) else none
set_option maxRecDepth 20000 in
theorem E_M_has_37 (z : xzs) (xs0 : Int32) (h : xH) : xle (D_M_has_37 z xs0 h) (B_M_has_37 z xs0 h) := by
  unfold D_M_has_37 B_M_has_37
  exact xle_zret rfl rfl rfl
noncomputable def B_M_leads_25 (z : xzs) (a0 : Nat) (h : xH) : Option xR := xev (K_M_leads z) (25, [(0, .ref a0)], [], h)
noncomputable def B_M_leads_37 (z : xzs) (xs0 : Int32) (h : xH) : Option xR := xev (K_M_leads z) (37, [], [.int xs0], h)
noncomputable def D_M_leads_0 (z : xzs) (a0 : Nat) (p1 : Int32) (h : xH) : Option xR :=
  (rdI h a0 6 38).bind fun x1 =>
  (xisO h a0 6).bind fun _ => xclI (f_M_place z [.ref a0, .int x1, .int p1] h) fun x3 h2 =>
  (xwr h2 a0 6 40 (.int x3)).bind fun h4 =>
  (rdI h4 a0 6 40).bind fun x5 =>
  if 0 ≤ x5 then
    B_M_leads_25 z a0 h4
  else
    (xwr h4 a0 6 0 (.int (Int32.ofInt 2))).bind fun h6 =>
    B_M_leads_25 z a0 h6
set_option maxRecDepth 20000 in
theorem E_M_leads (z : xzs) (a0 : Nat) (p1 : Int32) (h : xH) : xle (D_M_leads_0 z a0 p1 h) (xfun (K_M_leads z) 2 [.ref a0, .int p1] h) := by
  unfold D_M_leads_0
  refine xle_entry (Nat.le_of_ble_eq_true rfl) (xal_c (xca_a _) (xal_c (xca_i _) (rfl))) ?_
  show xle _ (xev (K_M_leads z) (0, [(0, .ref a0), (1, .int p1)], [], h))
  refine xle_next (i := .aload_n 0) (x' := (1, [(0, .ref a0), (1, .int p1)], [.ref a0], h)) rfl rfl rfl ?_
  refine xle_next (i := .aload_n 0) (x' := (2, [(0, .ref a0), (1, .int p1)], [.ref a0, .ref a0], h)) rfl rfl rfl ?_
  refine xle_next (i := .aload_n 0) (x' := (3, [(0, .ref a0), (1, .int p1)], [.ref a0, .ref a0, .ref a0], h)) rfl rfl rfl ?_
  refine xle_getI (f := (6, 38, .int, 1)) rfl rfl rfl (fun x1 => ?_)
  refine xle_next (i := .iload_n 1) (x' := (7, [(0, .ref a0), (1, .int p1)], [.int p1, .int x1, .ref a0, .ref a0], h)) rfl rfl rfl ?_
  refine xle_isO (i := .invokevirtual 124) (bq := a0) (ci := 6) (fo := (f_M_place z [.ref a0, .int x1, .int p1] h).bind (xback 7 [(0, .ref a0), (1, .int p1)] [.ref a0])) rfl rfl rfl (fun hs => ?_)
  refine xle_clI (t := [.ref a0]) rfl rfl hs (fun x3 h2 => ?_)
  refine xle_put (v := .int x3) (f := (6, 40, .int, 1)) rfl rfl rfl ⟨by decide, rfl, rfl⟩ (fun h4 => ?_)
  refine xle_next (i := .aload_n 0) (x' := (14, [(0, .ref a0), (1, .int p1)], [.ref a0], h4)) rfl rfl rfl ?_
  refine xle_getI (f := (6, 40, .int, 1)) rfl rfl rfl (fun x5 => ?_)
  refine xle_if (cd := .ge) (q := 25) rfl rfl rfl xc_ge (fun _ => ?_) (fun _ => ?_)
  · exact xle_jump rfl
  · refine xle_next (i := .aload_n 0) (x' := (21, [(0, .ref a0), (1, .int p1)], [.ref a0], h4)) rfl rfl rfl ?_
    refine xle_next (i := .iconst 2) (x' := (22, [(0, .ref a0), (1, .int p1)], [.int (Int32.ofInt 2), .ref a0], h4)) rfl rfl rfl ?_
    refine xle_put (v := .int (Int32.ofInt 2)) (f := (6, 0, .int, 1)) rfl rfl rfl ⟨by decide, rfl, rfl⟩ (fun h6 => ?_)
    exact xle_jump rfl
noncomputable def D_M_leads_25 (z : xzs) (a0 : Nat) (h : xH) : Option xR :=
  (rdI h a0 6 0).bind fun x7 =>
  if ¬ x7 = 0 then
    B_M_leads_37 z (Int32.ofInt 0) h
  else
    B_M_leads_37 z (Int32.ofInt 1) h
set_option maxRecDepth 20000 in
theorem E_M_leads_25 (z : xzs) (a0 : Nat) (h : xH) : xle (D_M_leads_25 z a0 h) (B_M_leads_25 z a0 h) := by
  unfold D_M_leads_25 B_M_leads_25
  refine xle_next (i := .aload_n 0) (x' := (26, [(0, .ref a0)], [.ref a0], h)) rfl rfl rfl ?_
  refine xle_getI (f := (6, 0, .int, 1)) rfl rfl rfl (fun x7 => ?_)
  refine xle_if (cd := .ne) (q := 36) rfl rfl rfl xc_ne (fun _ => ?_) (fun _ => ?_)
  · refine xle_next (i := .iconst 0) (x' := (37, [(0, .ref a0)], [.int (Int32.ofInt 0)], h)) rfl rfl rfl ?_
    exact xle_jump rfl
  · refine xle_next (i := .iconst 1) (x' := (33, [(0, .ref a0)], [.int (Int32.ofInt 1)], h)) rfl rfl rfl ?_
    refine xle_next (i := .goto 4) (x' := (37, [(0, .ref a0)], [.int (Int32.ofInt 1)], h)) rfl rfl rfl ?_
    exact xle_jump rfl
noncomputable def D_M_leads_37 (z : xzs) (xs0 : Int32) (h : xH) : Option xR :=
  if xs0 = 0 ∨ xs0 = 1 then some (.inl (some (.int xs0)), h) else none
set_option maxRecDepth 20000 in
theorem E_M_leads_37 (z : xzs) (xs0 : Int32) (h : xH) : xle (D_M_leads_37 z xs0 h) (B_M_leads_37 z xs0 h) := by
  unfold D_M_leads_37 B_M_leads_37
  exact xle_zret rfl rfl rfl
noncomputable def B_M_is_46 (z : xzs) (a0 : Nat) (h : xH) : Option xR := xev (K_M_is z) (46, [(0, .ref a0)], [], h)
noncomputable def B_M_is_58 (z : xzs) (xs0 : Int32) (h : xH) : Option xR := xev (K_M_is z) (58, [], [.int xs0], h)
noncomputable def D_M_is_0 (z : xzs) (a0 : Nat) (p1 : Int32) (p2 : Int32) (h : xH) : Option xR :=
  (rdR h a0 6 1).bind fun r1 =>
  (rdR h a0 6 8).bind fun r2 =>
  (rdI h a0 6 39).bind fun x3 =>
  r2.bind fun a4 =>
  (rdA 0 h a4 x3).bind fun x5 =>
  r1.bind fun a6 =>
  (rdA 0 h a6 x5).bind fun x7 =>
  if x7 = p1 then
    (rdR h a0 6 9).bind fun r8 =>
    (rdI h a0 6 39).bind fun x9 =>
    r8.bind fun a10 =>
    (rdA 0 h a10 x9).bind fun x11 =>
    if (x11 &&& p2) = p2 then
      B_M_is_46 z a0 h
    else
      (xwr h a0 6 0 (.int (Int32.ofInt 3))).bind fun h12 =>
      B_M_is_46 z a0 h12
  else
    (xwr h a0 6 0 (.int (Int32.ofInt 1))).bind fun h13 =>
    B_M_is_46 z a0 h13
set_option maxRecDepth 20000 in
theorem E_M_is (z : xzs) (a0 : Nat) (p1 : Int32) (p2 : Int32) (h : xH) : xle (D_M_is_0 z a0 p1 p2 h) (xfun (K_M_is z) 3 [.ref a0, .int p1, .int p2] h) := by
  unfold D_M_is_0
  refine xle_entry (Nat.le_of_ble_eq_true rfl) (xal_c (xca_a _) (xal_c (xca_i _) (xal_c (xca_i _) (rfl)))) ?_
  show xle _ (xev (K_M_is z) (0, [(0, .ref a0), (1, .int p1), (2, .int p2)], [], h))
  refine xle_next (i := .aload_n 0) (x' := (1, [(0, .ref a0), (1, .int p1), (2, .int p2)], [.ref a0], h)) rfl rfl rfl ?_
  refine xle_getR (f := (6, 1, .array .int, 0)) rfl rfl rfl (fun r1 => ?_)
  refine xle_next (i := .aload_n 0) (x' := (5, [(0, .ref a0), (1, .int p1), (2, .int p2)], [.ref a0, va_rf r1], h)) rfl rfl rfl ?_
  refine xle_getR (f := (6, 8, .array .int, 0)) rfl rfl rfl (fun r2 => ?_)
  refine xle_next (i := .aload_n 0) (x' := (9, [(0, .ref a0), (1, .int p1), (2, .int p2)], [.ref a0, va_rf r2, va_rf r1], h)) rfl rfl rfl ?_
  refine xle_getI (f := (6, 39, .int, 1)) rfl rfl rfl (fun x3 => ?_)
  refine xle_some (fun r_ => (12, [(0, .ref a0), (1, .int p1), (2, .int p2)], [.int x3, va_rf r_, va_rf r1], h)) (fun a4 => ?_)
  refine xle_iald rfl rfl (fun x5 => ?_)
  refine xle_some (fun r_ => (13, [(0, .ref a0), (1, .int p1), (2, .int p2)], [.int x5, va_rf r_], h)) (fun a6 => ?_)
  refine xle_iald rfl rfl (fun x7 => ?_)
  refine xle_next (i := .iload_n 1) (x' := (15, [(0, .ref a0), (1, .int p1), (2, .int p2)], [.int p1, .int x7], h)) rfl rfl rfl ?_
  refine xle_icmp (cd := .eq) (q := 26) rfl rfl rfl xc_eq (fun _ => ?_) (fun _ => ?_)
  · refine xle_next (i := .aload_n 0) (x' := (27, [(0, .ref a0), (1, .int p1), (2, .int p2)], [.ref a0], h)) rfl rfl rfl ?_
    refine xle_getR (f := (6, 9, .array .int, 0)) rfl rfl rfl (fun r8 => ?_)
    refine xle_next (i := .aload_n 0) (x' := (31, [(0, .ref a0), (1, .int p1), (2, .int p2)], [.ref a0, va_rf r8], h)) rfl rfl rfl ?_
    refine xle_getI (f := (6, 39, .int, 1)) rfl rfl rfl (fun x9 => ?_)
    refine xle_some (fun r_ => (34, [(0, .ref a0), (1, .int p1), (2, .int p2)], [.int x9, va_rf r_], h)) (fun a10 => ?_)
    refine xle_iald rfl rfl (fun x11 => ?_)
    refine xle_next (i := .iload_n 2) (x' := (36, [(0, .ref a0), (1, .int p1), (2, .int p2)], [.int p2, .int x11], h)) rfl rfl rfl ?_
    refine xle_next (i := .iand) (x' := (37, [(0, .ref a0), (1, .int p1), (2, .int p2)], [.int (x11 &&& p2)], h)) rfl rfl rfl ?_
    refine xle_next (i := .iload_n 2) (x' := (38, [(0, .ref a0), (1, .int p1), (2, .int p2)], [.int p2, .int (x11 &&& p2)], h)) rfl rfl rfl ?_
    refine xle_icmp (cd := .eq) (q := 46) rfl rfl rfl xc_eq (fun _ => ?_) (fun _ => ?_)
    · exact xle_jump rfl
    · refine xle_next (i := .aload_n 0) (x' := (42, [(0, .ref a0), (1, .int p1), (2, .int p2)], [.ref a0], h)) rfl rfl rfl ?_
      refine xle_next (i := .iconst 3) (x' := (43, [(0, .ref a0), (1, .int p1), (2, .int p2)], [.int (Int32.ofInt 3), .ref a0], h)) rfl rfl rfl ?_
      refine xle_put (v := .int (Int32.ofInt 3)) (f := (6, 0, .int, 1)) rfl rfl rfl ⟨by decide, rfl, rfl⟩ (fun h12 => ?_)
      exact xle_jump rfl
  · refine xle_next (i := .aload_n 0) (x' := (19, [(0, .ref a0), (1, .int p1), (2, .int p2)], [.ref a0], h)) rfl rfl rfl ?_
    refine xle_next (i := .iconst 1) (x' := (20, [(0, .ref a0), (1, .int p1), (2, .int p2)], [.int (Int32.ofInt 1), .ref a0], h)) rfl rfl rfl ?_
    refine xle_put (v := .int (Int32.ofInt 1)) (f := (6, 0, .int, 1)) rfl rfl rfl ⟨by decide, rfl, rfl⟩ (fun h13 => ?_)
    refine xle_next (i := .goto 23) (x' := (46, [(0, .ref a0), (1, .int p1), (2, .int p2)], [], h13)) rfl rfl rfl ?_
    exact xle_jump rfl
noncomputable def D_M_is_46 (z : xzs) (a0 : Nat) (h : xH) : Option xR :=
  (rdI h a0 6 0).bind fun x14 =>
  if ¬ x14 = 0 then
    B_M_is_58 z (Int32.ofInt 0) h
  else
    B_M_is_58 z (Int32.ofInt 1) h
set_option maxRecDepth 20000 in
theorem E_M_is_46 (z : xzs) (a0 : Nat) (h : xH) : xle (D_M_is_46 z a0 h) (B_M_is_46 z a0 h) := by
  unfold D_M_is_46 B_M_is_46
  refine xle_next (i := .aload_n 0) (x' := (47, [(0, .ref a0)], [.ref a0], h)) rfl rfl rfl ?_
  refine xle_getI (f := (6, 0, .int, 1)) rfl rfl rfl (fun x14 => ?_)
  refine xle_if (cd := .ne) (q := 57) rfl rfl rfl xc_ne (fun _ => ?_) (fun _ => ?_)
  · refine xle_next (i := .iconst 0) (x' := (58, [(0, .ref a0)], [.int (Int32.ofInt 0)], h)) rfl rfl rfl ?_
    exact xle_jump rfl
  · refine xle_next (i := .iconst 1) (x' := (54, [(0, .ref a0)], [.int (Int32.ofInt 1)], h)) rfl rfl rfl ?_
    refine xle_next (i := .goto 4) (x' := (58, [(0, .ref a0)], [.int (Int32.ofInt 1)], h)) rfl rfl rfl ?_
    exact xle_jump rfl
noncomputable def D_M_is_58 (z : xzs) (xs0 : Int32) (h : xH) : Option xR :=
  if xs0 = 0 ∨ xs0 = 1 then some (.inl (some (.int xs0)), h) else none
set_option maxRecDepth 20000 in
theorem E_M_is_58 (z : xzs) (xs0 : Int32) (h : xH) : xle (D_M_is_58 z xs0 h) (B_M_is_58 z xs0 h) := by
  unfold D_M_is_58 B_M_is_58
  exact xle_zret rfl rfl rfl
noncomputable def B_M_so_9 (z : xzs) (xv1 : Int32) (h : xH) : Option xR := xev (K_M_so z) (9, [(1, .int xv1)], [], h)
noncomputable def D_M_so_0 (z : xzs) (a0 : Nat) (p1 : Int32) (h : xH) : Option xR :=
  if ¬ p1 = 0 then
    B_M_so_9 z p1 h
  else
    (xwr h a0 6 0 (.int (Int32.ofInt 4))).bind fun h1 =>
    B_M_so_9 z p1 h1
set_option maxRecDepth 20000 in
theorem E_M_so (z : xzs) (a0 : Nat) (p1 : Int32) (h : xH) : xle (D_M_so_0 z a0 p1 h) (xfun (K_M_so z) 2 [.ref a0, .int p1] h) := by
  unfold D_M_so_0
  refine xle_entry (Nat.le_of_ble_eq_true rfl) (xal_c (xca_a _) (xal_c (xca_i _) (rfl))) ?_
  show xle _ (xev (K_M_so z) (0, [(0, .ref a0), (1, .int p1)], [], h))
  refine xle_next (i := .iload_n 1) (x' := (1, [(0, .ref a0), (1, .int p1)], [.int p1], h)) rfl rfl rfl ?_
  refine xle_if (cd := .ne) (q := 9) rfl rfl rfl xc_ne (fun _ => ?_) (fun _ => ?_)
  · exact xle_jump rfl
  · refine xle_next (i := .aload_n 0) (x' := (5, [(0, .ref a0), (1, .int p1)], [.ref a0], h)) rfl rfl rfl ?_
    refine xle_next (i := .iconst 4) (x' := (6, [(0, .ref a0), (1, .int p1)], [.int (Int32.ofInt 4), .ref a0], h)) rfl rfl rfl ?_
    refine xle_put (v := .int (Int32.ofInt 4)) (f := (6, 0, .int, 1)) rfl rfl rfl ⟨by decide, rfl, rfl⟩ (fun h1 => ?_)
    exact xle_jump rfl
noncomputable def D_M_so_9 (z : xzs) (xv1 : Int32) (h : xH) : Option xR :=
  if xv1 = 0 ∨ xv1 = 1 then some (.inl (some (.int xv1)), h) else none
set_option maxRecDepth 20000 in
theorem E_M_so_9 (z : xzs) (xv1 : Int32) (h : xH) : xle (D_M_so_9 z xv1 h) (B_M_so_9 z xv1 h) := by
  unfold D_M_so_9 B_M_so_9
  refine xle_next (i := .iload_n 1) (x' := (10, [(1, .int xv1)], [.int xv1], h)) rfl rfl rfl ?_
  exact xle_zret rfl rfl rfl
noncomputable def D_M_reaches_0 (z : xzs) (p0 : Int32) (h : xH) : Option xR :=
  xclI (f_M_within z [.int p0, .int (Int32.ofInt 0), .int ((Int8.ofInt 71).toInt32)] h) fun x2 h1 =>
  if x2 = 0 ∨ x2 = 1 then some (.inl (some (.int x2)), h1) else none
set_option maxRecDepth 20000 in
theorem E_M_reaches (z : xzs) (p0 : Int32) (h : xH) : xle (D_M_reaches_0 z p0 h) (xfun (K_M_reaches z) 1 [.int p0] h) := by
  unfold D_M_reaches_0
  refine xle_entry (Nat.le_of_ble_eq_true rfl) (xal_c (xca_i _) (rfl)) ?_
  show xle _ (xev (K_M_reaches z) (0, [(0, .int p0)], [], h))
  refine xle_next (i := .iload_n 0) (x' := (1, [(0, .int p0)], [.int p0], h)) rfl rfl rfl ?_
  refine xle_next (i := .iconst 0) (x' := (2, [(0, .int p0)], [.int (Int32.ofInt 0), .int p0], h)) rfl rfl rfl ?_
  refine xle_next (i := .bipush 71) (x' := (4, [(0, .int p0)], [.int ((Int8.ofInt 71).toInt32), .int (Int32.ofInt 0), .int p0], h)) rfl rfl rfl ?_
  refine xle_clI (i := .invokestatic 169) (fo := f_M_within z [.int p0, .int (Int32.ofInt 0), .int ((Int8.ofInt 71).toInt32)] h) (t := []) rfl rfl rfl (fun x2 h1 => ?_)
  exact xle_zret rfl rfl rfl
noncomputable def B_M_copy_29 (z : xzs) (a0 : Nat) (xv1 : Int32) (xv2 : Int32) (xv3 : Int32) (rs0 : Option Nat) (h : xH) : Option xR := xev (K_M_copy z) (29, [(0, .ref a0), (1, .int xv1), (2, .int xv2), (3, .int xv3)], [va_rf rs0], h)
noncomputable def B_M_copy_30 (z : xzs) (a0 : Nat) (xv1 : Int32) (xv2 : Int32) (xv3 : Int32) (xs0 : Int32) (rs1 : Option Nat) (h : xH) : Option xR := xev (K_M_copy z) (30, [(0, .ref a0), (1, .int xv1), (2, .int xv2), (3, .int xv3)], [.int xs0, va_rf rs1], h)
noncomputable def B_M_copy_76 (z : xzs)  (h : xH) : Option xR := xev (K_M_copy z) (76, [], [], h)
noncomputable def B_M_copy_70 (z : xzs) (a0 : Nat) (xv3 : Int32) (xs0 : Int32) (rs1 : Option Nat) (h : xH) : Option xR := xev (K_M_copy z) (70, [(0, .ref a0), (3, .int xv3)], [.int xs0, va_rf rs1], h)
noncomputable def D_M_copy_0 (z : xzs) (a0 : Nat) (p1 : Int32) (p2 : Int32) (p3 : Int32) (h : xH) : Option xR :=
  xclI (f_M_reaches z [.int p1] h) fun x2 h1 =>
  if x2 = 0 then
    B_M_copy_29 z a0 p1 p2 p3 (some a0) h1
  else
    xclI (f_M_reaches z [.int p2] h1) fun x4 h3 =>
    if x4 = 0 then
      B_M_copy_29 z a0 p1 p2 p3 (some a0) h3
    else
      xclI (f_M_within z [.int p3, .int (Int32.ofInt 0), .int ((Int8.ofInt 7).toInt32)] h3) fun x6 h5 =>
      if x6 = 0 then
        B_M_copy_29 z a0 p1 p2 p3 (some a0) h5
      else
        B_M_copy_30 z a0 p1 p2 p3 (Int32.ofInt 1) (some a0) h5
set_option maxRecDepth 20000 in
theorem E_M_copy (z : xzs) (a0 : Nat) (p1 : Int32) (p2 : Int32) (p3 : Int32) (h : xH) : xle (D_M_copy_0 z a0 p1 p2 p3 h) (xfun (K_M_copy z) 4 [.ref a0, .int p1, .int p2, .int p3] h) := by
  unfold D_M_copy_0
  refine xle_entry (Nat.le_of_ble_eq_true rfl) (xal_c (xca_a _) (xal_c (xca_i _) (xal_c (xca_i _) (xal_c (xca_i _) (rfl))))) ?_
  show xle _ (xev (K_M_copy z) (0, [(0, .ref a0), (1, .int p1), (2, .int p2), (3, .int p3)], [], h))
  refine xle_next (i := .aload_n 0) (x' := (1, [(0, .ref a0), (1, .int p1), (2, .int p2), (3, .int p3)], [.ref a0], h)) rfl rfl rfl ?_
  refine xle_next (i := .iload_n 1) (x' := (2, [(0, .ref a0), (1, .int p1), (2, .int p2), (3, .int p3)], [.int p1, .ref a0], h)) rfl rfl rfl ?_
  refine xle_clI (i := .invokestatic 173) (fo := f_M_reaches z [.int p1] h) (t := [.ref a0]) rfl rfl rfl (fun x2 h1 => ?_)
  refine xle_if (cd := .eq) (q := 29) rfl rfl rfl xc_eq (fun _ => ?_) (fun _ => ?_)
  · exact xle_jump rfl
  · refine xle_next (i := .iload_n 2) (x' := (9, [(0, .ref a0), (1, .int p1), (2, .int p2), (3, .int p3)], [.int p2, .ref a0], h1)) rfl rfl rfl ?_
    refine xle_clI (i := .invokestatic 173) (fo := f_M_reaches z [.int p2] h1) (t := [.ref a0]) rfl rfl rfl (fun x4 h3 => ?_)
    refine xle_if (cd := .eq) (q := 29) rfl rfl rfl xc_eq (fun _ => ?_) (fun _ => ?_)
    · exact xle_jump rfl
    · refine xle_next (i := .iload_n 3) (x' := (16, [(0, .ref a0), (1, .int p1), (2, .int p2), (3, .int p3)], [.int p3, .ref a0], h3)) rfl rfl rfl ?_
      refine xle_next (i := .iconst 0) (x' := (17, [(0, .ref a0), (1, .int p1), (2, .int p2), (3, .int p3)], [.int (Int32.ofInt 0), .int p3, .ref a0], h3)) rfl rfl rfl ?_
      refine xle_next (i := .bipush 7) (x' := (19, [(0, .ref a0), (1, .int p1), (2, .int p2), (3, .int p3)], [.int ((Int8.ofInt 7).toInt32), .int (Int32.ofInt 0), .int p3, .ref a0], h3)) rfl rfl rfl ?_
      refine xle_clI (i := .invokestatic 169) (fo := f_M_within z [.int p3, .int (Int32.ofInt 0), .int ((Int8.ofInt 7).toInt32)] h3) (t := [.ref a0]) rfl rfl rfl (fun x6 h5 => ?_)
      refine xle_if (cd := .eq) (q := 29) rfl rfl rfl xc_eq (fun _ => ?_) (fun _ => ?_)
      · exact xle_jump rfl
      · refine xle_next (i := .iconst 1) (x' := (26, [(0, .ref a0), (1, .int p1), (2, .int p2), (3, .int p3)], [.int (Int32.ofInt 1), .ref a0], h5)) rfl rfl rfl ?_
        refine xle_next (i := .goto 4) (x' := (30, [(0, .ref a0), (1, .int p1), (2, .int p2), (3, .int p3)], [.int (Int32.ofInt 1), .ref a0], h5)) rfl rfl rfl ?_
        exact xle_jump rfl
noncomputable def D_M_copy_29 (z : xzs) (a0 : Nat) (xv1 : Int32) (xv2 : Int32) (xv3 : Int32) (rs0 : Option Nat) (h : xH) : Option xR :=
  B_M_copy_30 z a0 xv1 xv2 xv3 (Int32.ofInt 0) rs0 h
set_option maxRecDepth 20000 in
theorem E_M_copy_29 (z : xzs) (a0 : Nat) (xv1 : Int32) (xv2 : Int32) (xv3 : Int32) (rs0 : Option Nat) (h : xH) : xle (D_M_copy_29 z a0 xv1 xv2 xv3 rs0 h) (B_M_copy_29 z a0 xv1 xv2 xv3 rs0 h) := by
  unfold D_M_copy_29 B_M_copy_29
  refine xle_next (i := .iconst 0) (x' := (30, [(0, .ref a0), (1, .int xv1), (2, .int xv2), (3, .int xv3)], [.int (Int32.ofInt 0), va_rf rs0], h)) rfl rfl rfl ?_
  exact xle_jump rfl
noncomputable def D_M_copy_30 (z : xzs) (a0 : Nat) (xv1 : Int32) (xv2 : Int32) (xv3 : Int32) (xs0 : Int32) (rs1 : Option Nat) (h : xH) : Option xR :=
  rs1.bind fun a7 =>
  (xisO h a7 6).bind fun _ => xclI (f_M_begins z [.ref a7, .int xs0] h) fun x9 h8 =>
  if x9 = 0 then
    B_M_copy_76 z h8
  else
    (xisO h8 a0 6).bind fun _ => xclI (f_M_has z [.ref a0, .int xv1] h8) fun x11 h10 =>
    if x11 = 0 then
      B_M_copy_76 z h10
    else
      (xisO h10 a0 6).bind fun _ => xclI (f_M_leads z [.ref a0, .int xv2] h10) fun x13 h12 =>
      if x13 = 0 then
        B_M_copy_76 z h12
      else
        (rdR h12 a0 6 14).bind fun r14 =>
        (rdI h12 a0 6 40).bind fun x15 =>
        r14.bind fun a16 =>
        (rdA 0 h12 a16 x15).bind fun x17 =>
        if ¬ x17 = 0 then
          B_M_copy_70 z a0 xv3 (Int32.ofInt 0) (some a0) h12
        else
          B_M_copy_70 z a0 xv3 (Int32.ofInt 1) (some a0) h12
set_option maxRecDepth 20000 in
theorem E_M_copy_30 (z : xzs) (a0 : Nat) (xv1 : Int32) (xv2 : Int32) (xv3 : Int32) (xs0 : Int32) (rs1 : Option Nat) (h : xH) : xle (D_M_copy_30 z a0 xv1 xv2 xv3 xs0 rs1 h) (B_M_copy_30 z a0 xv1 xv2 xv3 xs0 rs1 h) := by
  unfold D_M_copy_30 B_M_copy_30
  refine xle_some (fun r_ => (30, [(0, .ref a0), (1, .int xv1), (2, .int xv2), (3, .int xv3)], [.int xs0, va_rf r_], h)) (fun a7 => ?_)
  refine xle_isO (i := .invokevirtual 177) (bq := a7) (ci := 6) (fo := (f_M_begins z [.ref a7, .int xs0] h).bind (xback 30 [(0, .ref a0), (1, .int xv1), (2, .int xv2), (3, .int xv3)] [])) rfl rfl rfl (fun hs => ?_)
  refine xle_clI (t := []) rfl rfl hs (fun x9 h8 => ?_)
  refine xle_if (cd := .eq) (q := 76) rfl rfl rfl xc_eq (fun _ => ?_) (fun _ => ?_)
  · exact xle_jump rfl
  · refine xle_next (i := .aload_n 0) (x' := (37, [(0, .ref a0), (1, .int xv1), (2, .int xv2), (3, .int xv3)], [.ref a0], h8)) rfl rfl rfl ?_
    refine xle_next (i := .iload_n 1) (x' := (38, [(0, .ref a0), (1, .int xv1), (2, .int xv2), (3, .int xv3)], [.int xv1, .ref a0], h8)) rfl rfl rfl ?_
    refine xle_isO (i := .invokevirtual 181) (bq := a0) (ci := 6) (fo := (f_M_has z [.ref a0, .int xv1] h8).bind (xback 38 [(0, .ref a0), (1, .int xv1), (2, .int xv2), (3, .int xv3)] [])) rfl rfl rfl (fun hs => ?_)
    refine xle_clI (t := []) rfl rfl hs (fun x11 h10 => ?_)
    refine xle_if (cd := .eq) (q := 76) rfl rfl rfl xc_eq (fun _ => ?_) (fun _ => ?_)
    · exact xle_jump rfl
    · refine xle_next (i := .aload_n 0) (x' := (45, [(0, .ref a0), (1, .int xv1), (2, .int xv2), (3, .int xv3)], [.ref a0], h10)) rfl rfl rfl ?_
      refine xle_next (i := .iload_n 2) (x' := (46, [(0, .ref a0), (1, .int xv1), (2, .int xv2), (3, .int xv3)], [.int xv2, .ref a0], h10)) rfl rfl rfl ?_
      refine xle_isO (i := .invokevirtual 184) (bq := a0) (ci := 6) (fo := (f_M_leads z [.ref a0, .int xv2] h10).bind (xback 46 [(0, .ref a0), (1, .int xv1), (2, .int xv2), (3, .int xv3)] [])) rfl rfl rfl (fun hs => ?_)
      refine xle_clI (t := []) rfl rfl hs (fun x13 h12 => ?_)
      refine xle_if (cd := .eq) (q := 76) rfl rfl rfl xc_eq (fun _ => ?_) (fun _ => ?_)
      · exact xle_jump rfl
      · refine xle_next (i := .aload_n 0) (x' := (53, [(0, .ref a0), (1, .int xv1), (2, .int xv2), (3, .int xv3)], [.ref a0], h12)) rfl rfl rfl ?_
        refine xle_next (i := .aload_n 0) (x' := (54, [(0, .ref a0), (1, .int xv1), (2, .int xv2), (3, .int xv3)], [.ref a0, .ref a0], h12)) rfl rfl rfl ?_
        refine xle_getR (f := (6, 14, .array .int, 0)) rfl rfl rfl (fun r14 => ?_)
        refine xle_next (i := .aload_n 0) (x' := (58, [(0, .ref a0), (1, .int xv1), (2, .int xv2), (3, .int xv3)], [.ref a0, va_rf r14, .ref a0], h12)) rfl rfl rfl ?_
        refine xle_getI (f := (6, 40, .int, 1)) rfl rfl rfl (fun x15 => ?_)
        refine xle_some (fun r_ => (61, [(0, .ref a0), (1, .int xv1), (2, .int xv2), (3, .int xv3)], [.int x15, va_rf r_, .ref a0], h12)) (fun a16 => ?_)
        refine xle_iald rfl rfl (fun x17 => ?_)
        refine xle_if (cd := .ne) (q := 69) rfl rfl rfl xc_ne (fun _ => ?_) (fun _ => ?_)
        · refine xle_next (i := .iconst 0) (x' := (70, [(0, .ref a0), (1, .int xv1), (2, .int xv2), (3, .int xv3)], [.int (Int32.ofInt 0), .ref a0], h12)) rfl rfl rfl ?_
          exact xle_jump rfl
        · refine xle_next (i := .iconst 1) (x' := (66, [(0, .ref a0), (1, .int xv1), (2, .int xv2), (3, .int xv3)], [.int (Int32.ofInt 1), .ref a0], h12)) rfl rfl rfl ?_
          refine xle_next (i := .goto 4) (x' := (70, [(0, .ref a0), (1, .int xv1), (2, .int xv2), (3, .int xv3)], [.int (Int32.ofInt 1), .ref a0], h12)) rfl rfl rfl ?_
          exact xle_jump rfl
noncomputable def D_M_copy_76 (z : xzs)  (h : xH) : Option xR :=
  some (.inl (some (.int (Int32.ofInt 0))), h)
set_option maxRecDepth 20000 in
theorem E_M_copy_76 (z : xzs)  (h : xH) : xle (D_M_copy_76 z  h) (B_M_copy_76 z  h) := by
  unfold D_M_copy_76 B_M_copy_76
  refine xle_next (i := .iconst 0) (x' := (77, [], [.int (Int32.ofInt 0)], h)) rfl rfl rfl ?_
  exact xle_end (i := .ireturn) rfl rfl rfl
noncomputable def D_M_copy_70 (z : xzs) (a0 : Nat) (xv3 : Int32) (xs0 : Int32) (rs1 : Option Nat) (h : xH) : Option xR :=
  rs1.bind fun a18 =>
  (xisO h a18 6).bind fun _ => xclI (f_M_so z [.ref a18, .int xs0] h) fun x20 h19 =>
  if ¬ x20 = 0 then
    (rdI h19 a0 6 40).bind fun x21 =>
    (rdR h19 a0 6 8).bind fun r22 =>
    (rdI h19 a0 6 39).bind fun x23 =>
    r22.bind fun a24 =>
    (rdA 0 h19 a24 x23).bind fun x25 =>
    (rdR h19 a0 6 9).bind fun r26 =>
    (rdI h19 a0 6 39).bind fun x27 =>
    r26.bind fun a28 =>
    (rdA 0 h19 a28 x27).bind fun x29 =>
    (rdR h19 a0 6 10).bind fun r30 =>
    (rdI h19 a0 6 39).bind fun x31 =>
    r30.bind fun a32 =>
    (rdA 0 h19 a32 x31).bind fun x33 =>
    (rdI h19 a0 6 39).bind fun x34 =>
    (xisO h19 a0 6).bind fun _ => xclI (f_M_put z [.ref a0, .int x21, .int x25, .int (x29 &&& xv3), .int x33, .int x34] h19) fun x36 h35 =>
    some (.inl (some (.int x36)), h35)
  else
    B_M_copy_76 z h19
set_option maxRecDepth 20000 in
theorem E_M_copy_70 (z : xzs) (a0 : Nat) (xv3 : Int32) (xs0 : Int32) (rs1 : Option Nat) (h : xH) : xle (D_M_copy_70 z a0 xv3 xs0 rs1 h) (B_M_copy_70 z a0 xv3 xs0 rs1 h) := by
  unfold D_M_copy_70 B_M_copy_70
  refine xle_some (fun r_ => (70, [(0, .ref a0), (3, .int xv3)], [.int xs0, va_rf r_], h)) (fun a18 => ?_)
  refine xle_isO (i := .invokevirtual 187) (bq := a18) (ci := 6) (fo := (f_M_so z [.ref a18, .int xs0] h).bind (xback 70 [(0, .ref a0), (3, .int xv3)] [])) rfl rfl rfl (fun hs => ?_)
  refine xle_clI (t := []) rfl rfl hs (fun x20 h19 => ?_)
  refine xle_if (cd := .ne) (q := 78) rfl rfl rfl xc_ne (fun _ => ?_) (fun _ => ?_)
  · refine xle_next (i := .aload_n 0) (x' := (79, [(0, .ref a0), (3, .int xv3)], [.ref a0], h19)) rfl rfl rfl ?_
    refine xle_next (i := .aload_n 0) (x' := (80, [(0, .ref a0), (3, .int xv3)], [.ref a0, .ref a0], h19)) rfl rfl rfl ?_
    refine xle_getI (f := (6, 40, .int, 1)) rfl rfl rfl (fun x21 => ?_)
    refine xle_next (i := .aload_n 0) (x' := (84, [(0, .ref a0), (3, .int xv3)], [.ref a0, .int x21, .ref a0], h19)) rfl rfl rfl ?_
    refine xle_getR (f := (6, 8, .array .int, 0)) rfl rfl rfl (fun r22 => ?_)
    refine xle_next (i := .aload_n 0) (x' := (88, [(0, .ref a0), (3, .int xv3)], [.ref a0, va_rf r22, .int x21, .ref a0], h19)) rfl rfl rfl ?_
    refine xle_getI (f := (6, 39, .int, 1)) rfl rfl rfl (fun x23 => ?_)
    refine xle_some (fun r_ => (91, [(0, .ref a0), (3, .int xv3)], [.int x23, va_rf r_, .int x21, .ref a0], h19)) (fun a24 => ?_)
    refine xle_iald rfl rfl (fun x25 => ?_)
    refine xle_next (i := .aload_n 0) (x' := (93, [(0, .ref a0), (3, .int xv3)], [.ref a0, .int x25, .int x21, .ref a0], h19)) rfl rfl rfl ?_
    refine xle_getR (f := (6, 9, .array .int, 0)) rfl rfl rfl (fun r26 => ?_)
    refine xle_next (i := .aload_n 0) (x' := (97, [(0, .ref a0), (3, .int xv3)], [.ref a0, va_rf r26, .int x25, .int x21, .ref a0], h19)) rfl rfl rfl ?_
    refine xle_getI (f := (6, 39, .int, 1)) rfl rfl rfl (fun x27 => ?_)
    refine xle_some (fun r_ => (100, [(0, .ref a0), (3, .int xv3)], [.int x27, va_rf r_, .int x25, .int x21, .ref a0], h19)) (fun a28 => ?_)
    refine xle_iald rfl rfl (fun x29 => ?_)
    refine xle_next (i := .iload_n 3) (x' := (102, [(0, .ref a0), (3, .int xv3)], [.int xv3, .int x29, .int x25, .int x21, .ref a0], h19)) rfl rfl rfl ?_
    refine xle_next (i := .iand) (x' := (103, [(0, .ref a0), (3, .int xv3)], [.int (x29 &&& xv3), .int x25, .int x21, .ref a0], h19)) rfl rfl rfl ?_
    refine xle_next (i := .aload_n 0) (x' := (104, [(0, .ref a0), (3, .int xv3)], [.ref a0, .int (x29 &&& xv3), .int x25, .int x21, .ref a0], h19)) rfl rfl rfl ?_
    refine xle_getR (f := (6, 10, .array .int, 0)) rfl rfl rfl (fun r30 => ?_)
    refine xle_next (i := .aload_n 0) (x' := (108, [(0, .ref a0), (3, .int xv3)], [.ref a0, va_rf r30, .int (x29 &&& xv3), .int x25, .int x21, .ref a0], h19)) rfl rfl rfl ?_
    refine xle_getI (f := (6, 39, .int, 1)) rfl rfl rfl (fun x31 => ?_)
    refine xle_some (fun r_ => (111, [(0, .ref a0), (3, .int xv3)], [.int x31, va_rf r_, .int (x29 &&& xv3), .int x25, .int x21, .ref a0], h19)) (fun a32 => ?_)
    refine xle_iald rfl rfl (fun x33 => ?_)
    refine xle_next (i := .aload_n 0) (x' := (113, [(0, .ref a0), (3, .int xv3)], [.ref a0, .int x33, .int (x29 &&& xv3), .int x25, .int x21, .ref a0], h19)) rfl rfl rfl ?_
    refine xle_getI (f := (6, 39, .int, 1)) rfl rfl rfl (fun x34 => ?_)
    refine xle_isO (i := .invokevirtual 114) (bq := a0) (ci := 6) (fo := (f_M_put z [.ref a0, .int x21, .int x25, .int (x29 &&& xv3), .int x33, .int x34] h19).bind (xback 116 [(0, .ref a0), (3, .int xv3)] [])) rfl rfl rfl (fun hs => ?_)
    refine xle_clI (t := []) rfl rfl hs (fun x36 h35 => ?_)
    exact xle_end (i := .ireturn) rfl rfl rfl
  · exact xle_jump rfl
noncomputable def B_M_mint_41 (z : xzs) (a0 : Nat) (xv1 : Int32) (xv2 : Int32) (xv3 : Int32) (xv4 : Int32) (rs0 : Option Nat) (h : xH) : Option xR := xev (K_M_mint z) (41, [(0, .ref a0), (1, .int xv1), (2, .int xv2), (3, .int xv3), (4, .int xv4)], [va_rf rs0], h)
noncomputable def B_M_mint_42 (z : xzs) (a0 : Nat) (xv1 : Int32) (xv2 : Int32) (xv3 : Int32) (xv4 : Int32) (xs0 : Int32) (rs1 : Option Nat) (h : xH) : Option xR := xev (K_M_mint z) (42, [(0, .ref a0), (1, .int xv1), (2, .int xv2), (3, .int xv3), (4, .int xv4)], [.int xs0, va_rf rs1], h)
noncomputable def B_M_mint_64 (z : xzs)  (h : xH) : Option xR := xev (K_M_mint z) (64, [], [], h)
noncomputable def B_M_mint_108 (z : xzs) (a0 : Nat) (xv3 : Int32) (xv4 : Int32) (h : xH) : Option xR := xev (K_M_mint z) (108, [(0, .ref a0), (3, .int xv3), (4, .int xv4)], [], h)
noncomputable def B_M_mint_137 (z : xzs) (a0 : Nat) (xv3 : Int32) (xv4 : Int32) (rs0 : Option Nat) (h : xH) : Option xR := xev (K_M_mint z) (137, [(0, .ref a0), (3, .int xv3), (4, .int xv4)], [va_rf rs0], h)
noncomputable def B_M_mint_138 (z : xzs) (a0 : Nat) (xv3 : Int32) (xv4 : Int32) (xs0 : Int32) (rs1 : Option Nat) (h : xH) : Option xR := xev (K_M_mint z) (138, [(0, .ref a0), (3, .int xv3), (4, .int xv4)], [.int xs0, va_rf rs1], h)
noncomputable def D_M_mint_0 (z : xzs) (a0 : Nat) (p1 : Int32) (p2 : Int32) (p3 : Int32) (p4 : Int32) (h : xH) : Option xR :=
  xclI (f_M_reaches z [.int p1] h) fun x2 h1 =>
  if x2 = 0 then
    B_M_mint_41 z a0 p1 p2 p3 p4 (some a0) h1
  else
    xclI (f_M_reaches z [.int p2] h1) fun x4 h3 =>
    if x4 = 0 then
      B_M_mint_41 z a0 p1 p2 p3 p4 (some a0) h3
    else
      xclI (f_M_within z [.int p3, .int (Int32.ofInt 0), .int ((Int8.ofInt 7).toInt32)] h3) fun x6 h5 =>
      if x6 = 0 then
        B_M_mint_41 z a0 p1 p2 p3 p4 (some a0) h5
      else
        xclI (f_M_within z [.int p4, .int (Int32.ofInt 1), .int ((Int16.ofInt 255).toInt32)] h5) fun x8 h7 =>
        if x8 = 0 then
          B_M_mint_41 z a0 p1 p2 p3 p4 (some a0) h7
        else
          B_M_mint_42 z a0 p1 p2 p3 p4 (Int32.ofInt 1) (some a0) h7
set_option maxRecDepth 20000 in
theorem E_M_mint (z : xzs) (a0 : Nat) (p1 : Int32) (p2 : Int32) (p3 : Int32) (p4 : Int32) (h : xH) : xle (D_M_mint_0 z a0 p1 p2 p3 p4 h) (xfun (K_M_mint z) 5 [.ref a0, .int p1, .int p2, .int p3, .int p4] h) := by
  unfold D_M_mint_0
  refine xle_entry (Nat.le_of_ble_eq_true rfl) (xal_c (xca_a _) (xal_c (xca_i _) (xal_c (xca_i _) (xal_c (xca_i _) (xal_c (xca_i _) (rfl)))))) ?_
  show xle _ (xev (K_M_mint z) (0, [(0, .ref a0), (1, .int p1), (2, .int p2), (3, .int p3), (4, .int p4)], [], h))
  refine xle_next (i := .aload_n 0) (x' := (1, [(0, .ref a0), (1, .int p1), (2, .int p2), (3, .int p3), (4, .int p4)], [.ref a0], h)) rfl rfl rfl ?_
  refine xle_next (i := .iload_n 1) (x' := (2, [(0, .ref a0), (1, .int p1), (2, .int p2), (3, .int p3), (4, .int p4)], [.int p1, .ref a0], h)) rfl rfl rfl ?_
  refine xle_clI (i := .invokestatic 173) (fo := f_M_reaches z [.int p1] h) (t := [.ref a0]) rfl rfl rfl (fun x2 h1 => ?_)
  refine xle_if (cd := .eq) (q := 41) rfl rfl rfl xc_eq (fun _ => ?_) (fun _ => ?_)
  · exact xle_jump rfl
  · refine xle_next (i := .iload_n 2) (x' := (9, [(0, .ref a0), (1, .int p1), (2, .int p2), (3, .int p3), (4, .int p4)], [.int p2, .ref a0], h1)) rfl rfl rfl ?_
    refine xle_clI (i := .invokestatic 173) (fo := f_M_reaches z [.int p2] h1) (t := [.ref a0]) rfl rfl rfl (fun x4 h3 => ?_)
    refine xle_if (cd := .eq) (q := 41) rfl rfl rfl xc_eq (fun _ => ?_) (fun _ => ?_)
    · exact xle_jump rfl
    · refine xle_next (i := .iload_n 3) (x' := (16, [(0, .ref a0), (1, .int p1), (2, .int p2), (3, .int p3), (4, .int p4)], [.int p3, .ref a0], h3)) rfl rfl rfl ?_
      refine xle_next (i := .iconst 0) (x' := (17, [(0, .ref a0), (1, .int p1), (2, .int p2), (3, .int p3), (4, .int p4)], [.int (Int32.ofInt 0), .int p3, .ref a0], h3)) rfl rfl rfl ?_
      refine xle_next (i := .bipush 7) (x' := (19, [(0, .ref a0), (1, .int p1), (2, .int p2), (3, .int p3), (4, .int p4)], [.int ((Int8.ofInt 7).toInt32), .int (Int32.ofInt 0), .int p3, .ref a0], h3)) rfl rfl rfl ?_
      refine xle_clI (i := .invokestatic 169) (fo := f_M_within z [.int p3, .int (Int32.ofInt 0), .int ((Int8.ofInt 7).toInt32)] h3) (t := [.ref a0]) rfl rfl rfl (fun x6 h5 => ?_)
      refine xle_if (cd := .eq) (q := 41) rfl rfl rfl xc_eq (fun _ => ?_) (fun _ => ?_)
      · exact xle_jump rfl
      · refine xle_next (i := .iload 4) (x' := (27, [(0, .ref a0), (1, .int p1), (2, .int p2), (3, .int p3), (4, .int p4)], [.int p4, .ref a0], h5)) rfl rfl rfl ?_
        refine xle_next (i := .iconst 1) (x' := (28, [(0, .ref a0), (1, .int p1), (2, .int p2), (3, .int p3), (4, .int p4)], [.int (Int32.ofInt 1), .int p4, .ref a0], h5)) rfl rfl rfl ?_
        refine xle_next (i := .sipush 255) (x' := (31, [(0, .ref a0), (1, .int p1), (2, .int p2), (3, .int p3), (4, .int p4)], [.int ((Int16.ofInt 255).toInt32), .int (Int32.ofInt 1), .int p4, .ref a0], h5)) rfl rfl rfl ?_
        refine xle_clI (i := .invokestatic 169) (fo := f_M_within z [.int p4, .int (Int32.ofInt 1), .int ((Int16.ofInt 255).toInt32)] h5) (t := [.ref a0]) rfl rfl rfl (fun x8 h7 => ?_)
        refine xle_if (cd := .eq) (q := 41) rfl rfl rfl xc_eq (fun _ => ?_) (fun _ => ?_)
        · exact xle_jump rfl
        · refine xle_next (i := .iconst 1) (x' := (38, [(0, .ref a0), (1, .int p1), (2, .int p2), (3, .int p3), (4, .int p4)], [.int (Int32.ofInt 1), .ref a0], h7)) rfl rfl rfl ?_
          refine xle_next (i := .goto 4) (x' := (42, [(0, .ref a0), (1, .int p1), (2, .int p2), (3, .int p3), (4, .int p4)], [.int (Int32.ofInt 1), .ref a0], h7)) rfl rfl rfl ?_
          exact xle_jump rfl
noncomputable def D_M_mint_41 (z : xzs) (a0 : Nat) (xv1 : Int32) (xv2 : Int32) (xv3 : Int32) (xv4 : Int32) (rs0 : Option Nat) (h : xH) : Option xR :=
  B_M_mint_42 z a0 xv1 xv2 xv3 xv4 (Int32.ofInt 0) rs0 h
set_option maxRecDepth 20000 in
theorem E_M_mint_41 (z : xzs) (a0 : Nat) (xv1 : Int32) (xv2 : Int32) (xv3 : Int32) (xv4 : Int32) (rs0 : Option Nat) (h : xH) : xle (D_M_mint_41 z a0 xv1 xv2 xv3 xv4 rs0 h) (B_M_mint_41 z a0 xv1 xv2 xv3 xv4 rs0 h) := by
  unfold D_M_mint_41 B_M_mint_41
  refine xle_next (i := .iconst 0) (x' := (42, [(0, .ref a0), (1, .int xv1), (2, .int xv2), (3, .int xv3), (4, .int xv4)], [.int (Int32.ofInt 0), va_rf rs0], h)) rfl rfl rfl ?_
  exact xle_jump rfl
noncomputable def D_M_mint_42 (z : xzs) (a0 : Nat) (xv1 : Int32) (xv2 : Int32) (xv3 : Int32) (xv4 : Int32) (xs0 : Int32) (rs1 : Option Nat) (h : xH) : Option xR :=
  rs1.bind fun a9 =>
  (xisO h a9 6).bind fun _ => xclI (f_M_begins z [.ref a9, .int xs0] h) fun x11 h10 =>
  if x11 = 0 then
    B_M_mint_64 z h10
  else
    (xisO h10 a0 6).bind fun _ => xclI (f_M_has z [.ref a0, .int xv1] h10) fun x13 h12 =>
    if x13 = 0 then
      B_M_mint_64 z h12
    else
      (xisO h12 a0 6).bind fun _ => xclI (f_M_leads z [.ref a0, .int xv2] h12) fun x15 h14 =>
      if ¬ x15 = 0 then
        (rdR h14 a0 6 1).bind fun r16 =>
        (rdR h14 a0 6 8).bind fun r17 =>
        (rdI h14 a0 6 39).bind fun x18 =>
        r17.bind fun a19 =>
        (rdA 0 h14 a19 x18).bind fun x20 =>
        r16.bind fun a21 =>
        (rdA 0 h14 a21 x20).bind fun x22 =>
        if x22 = (Int32.ofInt 1) then
          B_M_mint_108 z a0 xv3 xv4 h14
        else
          (rdR h14 a0 6 1).bind fun r23 =>
          (rdR h14 a0 6 8).bind fun r24 =>
          (rdI h14 a0 6 39).bind fun x25 =>
          r24.bind fun a26 =>
          (rdA 0 h14 a26 x25).bind fun x27 =>
          r23.bind fun a28 =>
          (rdA 0 h14 a28 x27).bind fun x29 =>
          if x29 = (Int32.ofInt 2) then
            B_M_mint_108 z a0 xv3 xv4 h14
          else
            (xisO h14 a0 6).bind fun _ => xclI (f_M_fail z [.ref a0, .int (Int32.ofInt 1)] h14) fun x31 h30 =>
            some (.inl (some (.int x31)), h30)
      else
        B_M_mint_64 z h14
set_option maxRecDepth 20000 in
theorem E_M_mint_42 (z : xzs) (a0 : Nat) (xv1 : Int32) (xv2 : Int32) (xv3 : Int32) (xv4 : Int32) (xs0 : Int32) (rs1 : Option Nat) (h : xH) : xle (D_M_mint_42 z a0 xv1 xv2 xv3 xv4 xs0 rs1 h) (B_M_mint_42 z a0 xv1 xv2 xv3 xv4 xs0 rs1 h) := by
  unfold D_M_mint_42 B_M_mint_42
  refine xle_some (fun r_ => (42, [(0, .ref a0), (1, .int xv1), (2, .int xv2), (3, .int xv3), (4, .int xv4)], [.int xs0, va_rf r_], h)) (fun a9 => ?_)
  refine xle_isO (i := .invokevirtual 177) (bq := a9) (ci := 6) (fo := (f_M_begins z [.ref a9, .int xs0] h).bind (xback 42 [(0, .ref a0), (1, .int xv1), (2, .int xv2), (3, .int xv3), (4, .int xv4)] [])) rfl rfl rfl (fun hs => ?_)
  refine xle_clI (t := []) rfl rfl hs (fun x11 h10 => ?_)
  refine xle_if (cd := .eq) (q := 64) rfl rfl rfl xc_eq (fun _ => ?_) (fun _ => ?_)
  · exact xle_jump rfl
  · refine xle_next (i := .aload_n 0) (x' := (49, [(0, .ref a0), (1, .int xv1), (2, .int xv2), (3, .int xv3), (4, .int xv4)], [.ref a0], h10)) rfl rfl rfl ?_
    refine xle_next (i := .iload_n 1) (x' := (50, [(0, .ref a0), (1, .int xv1), (2, .int xv2), (3, .int xv3), (4, .int xv4)], [.int xv1, .ref a0], h10)) rfl rfl rfl ?_
    refine xle_isO (i := .invokevirtual 181) (bq := a0) (ci := 6) (fo := (f_M_has z [.ref a0, .int xv1] h10).bind (xback 50 [(0, .ref a0), (1, .int xv1), (2, .int xv2), (3, .int xv3), (4, .int xv4)] [])) rfl rfl rfl (fun hs => ?_)
    refine xle_clI (t := []) rfl rfl hs (fun x13 h12 => ?_)
    refine xle_if (cd := .eq) (q := 64) rfl rfl rfl xc_eq (fun _ => ?_) (fun _ => ?_)
    · exact xle_jump rfl
    · refine xle_next (i := .aload_n 0) (x' := (57, [(0, .ref a0), (1, .int xv1), (2, .int xv2), (3, .int xv3), (4, .int xv4)], [.ref a0], h12)) rfl rfl rfl ?_
      refine xle_next (i := .iload_n 2) (x' := (58, [(0, .ref a0), (1, .int xv1), (2, .int xv2), (3, .int xv3), (4, .int xv4)], [.int xv2, .ref a0], h12)) rfl rfl rfl ?_
      refine xle_isO (i := .invokevirtual 184) (bq := a0) (ci := 6) (fo := (f_M_leads z [.ref a0, .int xv2] h12).bind (xback 58 [(0, .ref a0), (1, .int xv1), (2, .int xv2), (3, .int xv3), (4, .int xv4)] [])) rfl rfl rfl (fun hs => ?_)
      refine xle_clI (t := []) rfl rfl hs (fun x15 h14 => ?_)
      refine xle_if (cd := .ne) (q := 66) rfl rfl rfl xc_ne (fun _ => ?_) (fun _ => ?_)
      · refine xle_next (i := .aload_n 0) (x' := (67, [(0, .ref a0), (1, .int xv1), (2, .int xv2), (3, .int xv3), (4, .int xv4)], [.ref a0], h14)) rfl rfl rfl ?_
        refine xle_getR (f := (6, 1, .array .int, 0)) rfl rfl rfl (fun r16 => ?_)
        refine xle_next (i := .aload_n 0) (x' := (71, [(0, .ref a0), (1, .int xv1), (2, .int xv2), (3, .int xv3), (4, .int xv4)], [.ref a0, va_rf r16], h14)) rfl rfl rfl ?_
        refine xle_getR (f := (6, 8, .array .int, 0)) rfl rfl rfl (fun r17 => ?_)
        refine xle_next (i := .aload_n 0) (x' := (75, [(0, .ref a0), (1, .int xv1), (2, .int xv2), (3, .int xv3), (4, .int xv4)], [.ref a0, va_rf r17, va_rf r16], h14)) rfl rfl rfl ?_
        refine xle_getI (f := (6, 39, .int, 1)) rfl rfl rfl (fun x18 => ?_)
        refine xle_some (fun r_ => (78, [(0, .ref a0), (1, .int xv1), (2, .int xv2), (3, .int xv3), (4, .int xv4)], [.int x18, va_rf r_, va_rf r16], h14)) (fun a19 => ?_)
        refine xle_iald rfl rfl (fun x20 => ?_)
        refine xle_some (fun r_ => (79, [(0, .ref a0), (1, .int xv1), (2, .int xv2), (3, .int xv3), (4, .int xv4)], [.int x20, va_rf r_], h14)) (fun a21 => ?_)
        refine xle_iald rfl rfl (fun x22 => ?_)
        refine xle_next (i := .iconst 1) (x' := (81, [(0, .ref a0), (1, .int xv1), (2, .int xv2), (3, .int xv3), (4, .int xv4)], [.int (Int32.ofInt 1), .int x22], h14)) rfl rfl rfl ?_
        refine xle_icmp (cd := .eq) (q := 108) rfl rfl rfl xc_eq (fun _ => ?_) (fun _ => ?_)
        · exact xle_jump rfl
        · refine xle_next (i := .aload_n 0) (x' := (85, [(0, .ref a0), (1, .int xv1), (2, .int xv2), (3, .int xv3), (4, .int xv4)], [.ref a0], h14)) rfl rfl rfl ?_
          refine xle_getR (f := (6, 1, .array .int, 0)) rfl rfl rfl (fun r23 => ?_)
          refine xle_next (i := .aload_n 0) (x' := (89, [(0, .ref a0), (1, .int xv1), (2, .int xv2), (3, .int xv3), (4, .int xv4)], [.ref a0, va_rf r23], h14)) rfl rfl rfl ?_
          refine xle_getR (f := (6, 8, .array .int, 0)) rfl rfl rfl (fun r24 => ?_)
          refine xle_next (i := .aload_n 0) (x' := (93, [(0, .ref a0), (1, .int xv1), (2, .int xv2), (3, .int xv3), (4, .int xv4)], [.ref a0, va_rf r24, va_rf r23], h14)) rfl rfl rfl ?_
          refine xle_getI (f := (6, 39, .int, 1)) rfl rfl rfl (fun x25 => ?_)
          refine xle_some (fun r_ => (96, [(0, .ref a0), (1, .int xv1), (2, .int xv2), (3, .int xv3), (4, .int xv4)], [.int x25, va_rf r_, va_rf r23], h14)) (fun a26 => ?_)
          refine xle_iald rfl rfl (fun x27 => ?_)
          refine xle_some (fun r_ => (97, [(0, .ref a0), (1, .int xv1), (2, .int xv2), (3, .int xv3), (4, .int xv4)], [.int x27, va_rf r_], h14)) (fun a28 => ?_)
          refine xle_iald rfl rfl (fun x29 => ?_)
          refine xle_next (i := .iconst 2) (x' := (99, [(0, .ref a0), (1, .int xv1), (2, .int xv2), (3, .int xv3), (4, .int xv4)], [.int (Int32.ofInt 2), .int x29], h14)) rfl rfl rfl ?_
          refine xle_icmp (cd := .eq) (q := 108) rfl rfl rfl xc_eq (fun _ => ?_) (fun _ => ?_)
          · exact xle_jump rfl
          · refine xle_next (i := .aload_n 0) (x' := (103, [(0, .ref a0), (1, .int xv1), (2, .int xv2), (3, .int xv3), (4, .int xv4)], [.ref a0], h14)) rfl rfl rfl ?_
            refine xle_next (i := .iconst 1) (x' := (104, [(0, .ref a0), (1, .int xv1), (2, .int xv2), (3, .int xv3), (4, .int xv4)], [.int (Int32.ofInt 1), .ref a0], h14)) rfl rfl rfl ?_
            refine xle_isO (i := .invokevirtual 190) (bq := a0) (ci := 6) (fo := (f_M_fail z [.ref a0, .int (Int32.ofInt 1)] h14).bind (xback 104 [(0, .ref a0), (1, .int xv1), (2, .int xv2), (3, .int xv3), (4, .int xv4)] [])) rfl rfl rfl (fun hs => ?_)
            refine xle_clI (t := []) rfl rfl hs (fun x31 h30 => ?_)
            exact xle_end (i := .ireturn) rfl rfl rfl
      · exact xle_jump rfl
noncomputable def D_M_mint_64 (z : xzs)  (h : xH) : Option xR :=
  some (.inl (some (.int (Int32.ofInt 0))), h)
set_option maxRecDepth 20000 in
theorem E_M_mint_64 (z : xzs)  (h : xH) : xle (D_M_mint_64 z  h) (B_M_mint_64 z  h) := by
  unfold D_M_mint_64 B_M_mint_64
  refine xle_next (i := .iconst 0) (x' := (65, [], [.int (Int32.ofInt 0)], h)) rfl rfl rfl ?_
  exact xle_end (i := .ireturn) rfl rfl rfl
noncomputable def D_M_mint_108 (z : xzs) (a0 : Nat) (xv3 : Int32) (xv4 : Int32) (h : xH) : Option xR :=
  (rdR h a0 6 10).bind fun r32 =>
  (rdI h a0 6 39).bind fun x33 =>
  r32.bind fun a34 =>
  (rdA 0 h a34 x33).bind fun x35 =>
  if ¬ x35 = 0 then
    B_M_mint_137 z a0 xv3 xv4 (some a0) h
  else
    (rdR h a0 6 14).bind fun r36 =>
    (rdI h a0 6 40).bind fun x37 =>
    r36.bind fun a38 =>
    (rdA 0 h a38 x37).bind fun x39 =>
    if ¬ x39 = 0 then
      B_M_mint_137 z a0 xv3 xv4 (some a0) h
    else
      B_M_mint_138 z a0 xv3 xv4 (Int32.ofInt 1) (some a0) h
set_option maxRecDepth 20000 in
theorem E_M_mint_108 (z : xzs) (a0 : Nat) (xv3 : Int32) (xv4 : Int32) (h : xH) : xle (D_M_mint_108 z a0 xv3 xv4 h) (B_M_mint_108 z a0 xv3 xv4 h) := by
  unfold D_M_mint_108 B_M_mint_108
  refine xle_next (i := .aload_n 0) (x' := (109, [(0, .ref a0), (3, .int xv3), (4, .int xv4)], [.ref a0], h)) rfl rfl rfl ?_
  refine xle_next (i := .aload_n 0) (x' := (110, [(0, .ref a0), (3, .int xv3), (4, .int xv4)], [.ref a0, .ref a0], h)) rfl rfl rfl ?_
  refine xle_getR (f := (6, 10, .array .int, 0)) rfl rfl rfl (fun r32 => ?_)
  refine xle_next (i := .aload_n 0) (x' := (114, [(0, .ref a0), (3, .int xv3), (4, .int xv4)], [.ref a0, va_rf r32, .ref a0], h)) rfl rfl rfl ?_
  refine xle_getI (f := (6, 39, .int, 1)) rfl rfl rfl (fun x33 => ?_)
  refine xle_some (fun r_ => (117, [(0, .ref a0), (3, .int xv3), (4, .int xv4)], [.int x33, va_rf r_, .ref a0], h)) (fun a34 => ?_)
  refine xle_iald rfl rfl (fun x35 => ?_)
  refine xle_if (cd := .ne) (q := 137) rfl rfl rfl xc_ne (fun _ => ?_) (fun _ => ?_)
  · exact xle_jump rfl
  · refine xle_next (i := .aload_n 0) (x' := (122, [(0, .ref a0), (3, .int xv3), (4, .int xv4)], [.ref a0, .ref a0], h)) rfl rfl rfl ?_
    refine xle_getR (f := (6, 14, .array .int, 0)) rfl rfl rfl (fun r36 => ?_)
    refine xle_next (i := .aload_n 0) (x' := (126, [(0, .ref a0), (3, .int xv3), (4, .int xv4)], [.ref a0, va_rf r36, .ref a0], h)) rfl rfl rfl ?_
    refine xle_getI (f := (6, 40, .int, 1)) rfl rfl rfl (fun x37 => ?_)
    refine xle_some (fun r_ => (129, [(0, .ref a0), (3, .int xv3), (4, .int xv4)], [.int x37, va_rf r_, .ref a0], h)) (fun a38 => ?_)
    refine xle_iald rfl rfl (fun x39 => ?_)
    refine xle_if (cd := .ne) (q := 137) rfl rfl rfl xc_ne (fun _ => ?_) (fun _ => ?_)
    · exact xle_jump rfl
    · refine xle_next (i := .iconst 1) (x' := (134, [(0, .ref a0), (3, .int xv3), (4, .int xv4)], [.int (Int32.ofInt 1), .ref a0], h)) rfl rfl rfl ?_
      refine xle_next (i := .goto 4) (x' := (138, [(0, .ref a0), (3, .int xv3), (4, .int xv4)], [.int (Int32.ofInt 1), .ref a0], h)) rfl rfl rfl ?_
      exact xle_jump rfl
noncomputable def D_M_mint_137 (z : xzs) (a0 : Nat) (xv3 : Int32) (xv4 : Int32) (rs0 : Option Nat) (h : xH) : Option xR :=
  B_M_mint_138 z a0 xv3 xv4 (Int32.ofInt 0) rs0 h
set_option maxRecDepth 20000 in
theorem E_M_mint_137 (z : xzs) (a0 : Nat) (xv3 : Int32) (xv4 : Int32) (rs0 : Option Nat) (h : xH) : xle (D_M_mint_137 z a0 xv3 xv4 rs0 h) (B_M_mint_137 z a0 xv3 xv4 rs0 h) := by
  unfold D_M_mint_137 B_M_mint_137
  refine xle_next (i := .iconst 0) (x' := (138, [(0, .ref a0), (3, .int xv3), (4, .int xv4)], [.int (Int32.ofInt 0), va_rf rs0], h)) rfl rfl rfl ?_
  exact xle_jump rfl
noncomputable def D_M_mint_138 (z : xzs) (a0 : Nat) (xv3 : Int32) (xv4 : Int32) (xs0 : Int32) (rs1 : Option Nat) (h : xH) : Option xR :=
  rs1.bind fun a40 =>
  (xisO h a40 6).bind fun _ => xclI (f_M_so z [.ref a40, .int xs0] h) fun x42 h41 =>
  if ¬ x42 = 0 then
    (rdI h41 a0 6 40).bind fun x43 =>
    (rdR h41 a0 6 8).bind fun r44 =>
    (rdI h41 a0 6 39).bind fun x45 =>
    r44.bind fun a46 =>
    (rdA 0 h41 a46 x45).bind fun x47 =>
    (rdR h41 a0 6 9).bind fun r48 =>
    (rdI h41 a0 6 39).bind fun x49 =>
    r48.bind fun a50 =>
    (rdA 0 h41 a50 x49).bind fun x51 =>
    (rdI h41 a0 6 39).bind fun x52 =>
    (xisO h41 a0 6).bind fun _ => xclI (f_M_put z [.ref a0, .int x43, .int x47, .int (x51 &&& xv3), .int xv4, .int x52] h41) fun x54 h53 =>
    some (.inl (some (.int x54)), h53)
  else
    some (.inl (some (.int (Int32.ofInt 0))), h41)
set_option maxRecDepth 20000 in
theorem E_M_mint_138 (z : xzs) (a0 : Nat) (xv3 : Int32) (xv4 : Int32) (xs0 : Int32) (rs1 : Option Nat) (h : xH) : xle (D_M_mint_138 z a0 xv3 xv4 xs0 rs1 h) (B_M_mint_138 z a0 xv3 xv4 xs0 rs1 h) := by
  unfold D_M_mint_138 B_M_mint_138
  refine xle_some (fun r_ => (138, [(0, .ref a0), (3, .int xv3), (4, .int xv4)], [.int xs0, va_rf r_], h)) (fun a40 => ?_)
  refine xle_isO (i := .invokevirtual 187) (bq := a40) (ci := 6) (fo := (f_M_so z [.ref a40, .int xs0] h).bind (xback 138 [(0, .ref a0), (3, .int xv3), (4, .int xv4)] [])) rfl rfl rfl (fun hs => ?_)
  refine xle_clI (t := []) rfl rfl hs (fun x42 h41 => ?_)
  refine xle_if (cd := .ne) (q := 146) rfl rfl rfl xc_ne (fun _ => ?_) (fun _ => ?_)
  · refine xle_next (i := .aload_n 0) (x' := (147, [(0, .ref a0), (3, .int xv3), (4, .int xv4)], [.ref a0], h41)) rfl rfl rfl ?_
    refine xle_next (i := .aload_n 0) (x' := (148, [(0, .ref a0), (3, .int xv3), (4, .int xv4)], [.ref a0, .ref a0], h41)) rfl rfl rfl ?_
    refine xle_getI (f := (6, 40, .int, 1)) rfl rfl rfl (fun x43 => ?_)
    refine xle_next (i := .aload_n 0) (x' := (152, [(0, .ref a0), (3, .int xv3), (4, .int xv4)], [.ref a0, .int x43, .ref a0], h41)) rfl rfl rfl ?_
    refine xle_getR (f := (6, 8, .array .int, 0)) rfl rfl rfl (fun r44 => ?_)
    refine xle_next (i := .aload_n 0) (x' := (156, [(0, .ref a0), (3, .int xv3), (4, .int xv4)], [.ref a0, va_rf r44, .int x43, .ref a0], h41)) rfl rfl rfl ?_
    refine xle_getI (f := (6, 39, .int, 1)) rfl rfl rfl (fun x45 => ?_)
    refine xle_some (fun r_ => (159, [(0, .ref a0), (3, .int xv3), (4, .int xv4)], [.int x45, va_rf r_, .int x43, .ref a0], h41)) (fun a46 => ?_)
    refine xle_iald rfl rfl (fun x47 => ?_)
    refine xle_next (i := .aload_n 0) (x' := (161, [(0, .ref a0), (3, .int xv3), (4, .int xv4)], [.ref a0, .int x47, .int x43, .ref a0], h41)) rfl rfl rfl ?_
    refine xle_getR (f := (6, 9, .array .int, 0)) rfl rfl rfl (fun r48 => ?_)
    refine xle_next (i := .aload_n 0) (x' := (165, [(0, .ref a0), (3, .int xv3), (4, .int xv4)], [.ref a0, va_rf r48, .int x47, .int x43, .ref a0], h41)) rfl rfl rfl ?_
    refine xle_getI (f := (6, 39, .int, 1)) rfl rfl rfl (fun x49 => ?_)
    refine xle_some (fun r_ => (168, [(0, .ref a0), (3, .int xv3), (4, .int xv4)], [.int x49, va_rf r_, .int x47, .int x43, .ref a0], h41)) (fun a50 => ?_)
    refine xle_iald rfl rfl (fun x51 => ?_)
    refine xle_next (i := .iload_n 3) (x' := (170, [(0, .ref a0), (3, .int xv3), (4, .int xv4)], [.int xv3, .int x51, .int x47, .int x43, .ref a0], h41)) rfl rfl rfl ?_
    refine xle_next (i := .iand) (x' := (171, [(0, .ref a0), (3, .int xv3), (4, .int xv4)], [.int (x51 &&& xv3), .int x47, .int x43, .ref a0], h41)) rfl rfl rfl ?_
    refine xle_next (i := .iload 4) (x' := (173, [(0, .ref a0), (3, .int xv3), (4, .int xv4)], [.int xv4, .int (x51 &&& xv3), .int x47, .int x43, .ref a0], h41)) rfl rfl rfl ?_
    refine xle_next (i := .aload_n 0) (x' := (174, [(0, .ref a0), (3, .int xv3), (4, .int xv4)], [.ref a0, .int xv4, .int (x51 &&& xv3), .int x47, .int x43, .ref a0], h41)) rfl rfl rfl ?_
    refine xle_getI (f := (6, 39, .int, 1)) rfl rfl rfl (fun x52 => ?_)
    refine xle_isO (i := .invokevirtual 114) (bq := a0) (ci := 6) (fo := (f_M_put z [.ref a0, .int x43, .int x47, .int (x51 &&& xv3), .int xv4, .int x52] h41).bind (xback 177 [(0, .ref a0), (3, .int xv3), (4, .int xv4)] [])) rfl rfl rfl (fun hs => ?_)
    refine xle_clI (t := []) rfl rfl hs (fun x54 h53 => ?_)
    exact xle_end (i := .ireturn) rfl rfl rfl
  · refine xle_next (i := .iconst 0) (x' := (145, [(0, .ref a0), (3, .int xv3), (4, .int xv4)], [.int (Int32.ofInt 0)], h41)) rfl rfl rfl ?_
    exact xle_end (i := .ireturn) rfl rfl rfl
noncomputable def B_M_move_19 (z : xzs) (a0 : Nat) (xv1 : Int32) (xv2 : Int32) (rs0 : Option Nat) (h : xH) : Option xR := xev (K_M_move z) (19, [(0, .ref a0), (1, .int xv1), (2, .int xv2)], [va_rf rs0], h)
noncomputable def B_M_move_20 (z : xzs) (a0 : Nat) (xv1 : Int32) (xv2 : Int32) (xs0 : Int32) (rs1 : Option Nat) (h : xH) : Option xR := xev (K_M_move z) (20, [(0, .ref a0), (1, .int xv1), (2, .int xv2)], [.int xs0, va_rf rs1], h)
noncomputable def B_M_move_42 (z : xzs)  (h : xH) : Option xR := xev (K_M_move z) (42, [], [], h)
noncomputable def B_M_move_85 (z : xzs) (a0 : Nat) (h : xH) : Option xR := xev (K_M_move z) (85, [(0, .ref a0)], [], h)
noncomputable def B_M_move_86 (z : xzs) (a0 : Nat) (xs0 : Int32) (h : xH) : Option xR := xev (K_M_move z) (86, [(0, .ref a0)], [.int xs0], h)
noncomputable def B_M_move_108 (z : xzs) (a0 : Nat) (rs0 : Option Nat) (h : xH) : Option xR := xev (K_M_move z) (108, [(0, .ref a0)], [va_rf rs0], h)
noncomputable def B_M_move_109 (z : xzs) (a0 : Nat) (xs0 : Int32) (rs1 : Option Nat) (h : xH) : Option xR := xev (K_M_move z) (109, [(0, .ref a0)], [.int xs0, va_rf rs1], h)
noncomputable def D_M_move_0 (z : xzs) (a0 : Nat) (p1 : Int32) (p2 : Int32) (h : xH) : Option xR :=
  xclI (f_M_reaches z [.int p1] h) fun x2 h1 =>
  if x2 = 0 then
    B_M_move_19 z a0 p1 p2 (some a0) h1
  else
    xclI (f_M_reaches z [.int p2] h1) fun x4 h3 =>
    if x4 = 0 then
      B_M_move_19 z a0 p1 p2 (some a0) h3
    else
      B_M_move_20 z a0 p1 p2 (Int32.ofInt 1) (some a0) h3
set_option maxRecDepth 20000 in
theorem E_M_move (z : xzs) (a0 : Nat) (p1 : Int32) (p2 : Int32) (h : xH) : xle (D_M_move_0 z a0 p1 p2 h) (xfun (K_M_move z) 4 [.ref a0, .int p1, .int p2] h) := by
  unfold D_M_move_0
  refine xle_entry (Nat.le_of_ble_eq_true rfl) (xal_c (xca_a _) (xal_c (xca_i _) (xal_c (xca_i _) (rfl)))) ?_
  show xle _ (xev (K_M_move z) (0, [(0, .ref a0), (1, .int p1), (2, .int p2)], [], h))
  refine xle_next (i := .aload_n 0) (x' := (1, [(0, .ref a0), (1, .int p1), (2, .int p2)], [.ref a0], h)) rfl rfl rfl ?_
  refine xle_next (i := .iload_n 1) (x' := (2, [(0, .ref a0), (1, .int p1), (2, .int p2)], [.int p1, .ref a0], h)) rfl rfl rfl ?_
  refine xle_clI (i := .invokestatic 173) (fo := f_M_reaches z [.int p1] h) (t := [.ref a0]) rfl rfl rfl (fun x2 h1 => ?_)
  refine xle_if (cd := .eq) (q := 19) rfl rfl rfl xc_eq (fun _ => ?_) (fun _ => ?_)
  · exact xle_jump rfl
  · refine xle_next (i := .iload_n 2) (x' := (9, [(0, .ref a0), (1, .int p1), (2, .int p2)], [.int p2, .ref a0], h1)) rfl rfl rfl ?_
    refine xle_clI (i := .invokestatic 173) (fo := f_M_reaches z [.int p2] h1) (t := [.ref a0]) rfl rfl rfl (fun x4 h3 => ?_)
    refine xle_if (cd := .eq) (q := 19) rfl rfl rfl xc_eq (fun _ => ?_) (fun _ => ?_)
    · exact xle_jump rfl
    · refine xle_next (i := .iconst 1) (x' := (16, [(0, .ref a0), (1, .int p1), (2, .int p2)], [.int (Int32.ofInt 1), .ref a0], h3)) rfl rfl rfl ?_
      refine xle_next (i := .goto 4) (x' := (20, [(0, .ref a0), (1, .int p1), (2, .int p2)], [.int (Int32.ofInt 1), .ref a0], h3)) rfl rfl rfl ?_
      exact xle_jump rfl
noncomputable def D_M_move_19 (z : xzs) (a0 : Nat) (xv1 : Int32) (xv2 : Int32) (rs0 : Option Nat) (h : xH) : Option xR :=
  B_M_move_20 z a0 xv1 xv2 (Int32.ofInt 0) rs0 h
set_option maxRecDepth 20000 in
theorem E_M_move_19 (z : xzs) (a0 : Nat) (xv1 : Int32) (xv2 : Int32) (rs0 : Option Nat) (h : xH) : xle (D_M_move_19 z a0 xv1 xv2 rs0 h) (B_M_move_19 z a0 xv1 xv2 rs0 h) := by
  unfold D_M_move_19 B_M_move_19
  refine xle_next (i := .iconst 0) (x' := (20, [(0, .ref a0), (1, .int xv1), (2, .int xv2)], [.int (Int32.ofInt 0), va_rf rs0], h)) rfl rfl rfl ?_
  exact xle_jump rfl
noncomputable def D_M_move_20 (z : xzs) (a0 : Nat) (xv1 : Int32) (xv2 : Int32) (xs0 : Int32) (rs1 : Option Nat) (h : xH) : Option xR :=
  rs1.bind fun a5 =>
  (xisO h a5 6).bind fun _ => xclI (f_M_begins z [.ref a5, .int xs0] h) fun x7 h6 =>
  if x7 = 0 then
    B_M_move_42 z h6
  else
    (xisO h6 a0 6).bind fun _ => xclI (f_M_has z [.ref a0, .int xv1] h6) fun x9 h8 =>
    if x9 = 0 then
      B_M_move_42 z h8
    else
      (xisO h8 a0 6).bind fun _ => xclI (f_M_leads z [.ref a0, .int xv2] h8) fun x11 h10 =>
      if ¬ x11 = 0 then
        (rdR h10 a0 6 1).bind fun r12 =>
        (rdR h10 a0 6 8).bind fun r13 =>
        (rdI h10 a0 6 39).bind fun x14 =>
        r13.bind fun a15 =>
        (rdA 0 h10 a15 x14).bind fun x16 =>
        r12.bind fun a17 =>
        (rdA 0 h10 a17 x16).bind fun x18 =>
        if ¬ x18 = (Int32.ofInt 3) then
          B_M_move_85 z a0 h10
        else
          (rdI h10 a0 6 40).bind fun x19 =>
          (rdR h10 a0 6 8).bind fun r20 =>
          (rdI h10 a0 6 39).bind fun x21 =>
          r20.bind fun a22 =>
          (rdA 0 h10 a22 x21).bind fun x23 =>
          if ¬ (x19 / ((Int8.ofInt 8).toInt32)) = x23 then
            B_M_move_85 z a0 h10
          else
            B_M_move_86 z a0 (Int32.ofInt 1) h10
      else
        B_M_move_42 z h10
set_option maxRecDepth 20000 in
theorem E_M_move_20 (z : xzs) (a0 : Nat) (xv1 : Int32) (xv2 : Int32) (xs0 : Int32) (rs1 : Option Nat) (h : xH) : xle (D_M_move_20 z a0 xv1 xv2 xs0 rs1 h) (B_M_move_20 z a0 xv1 xv2 xs0 rs1 h) := by
  unfold D_M_move_20 B_M_move_20
  refine xle_some (fun r_ => (20, [(0, .ref a0), (1, .int xv1), (2, .int xv2)], [.int xs0, va_rf r_], h)) (fun a5 => ?_)
  refine xle_isO (i := .invokevirtual 177) (bq := a5) (ci := 6) (fo := (f_M_begins z [.ref a5, .int xs0] h).bind (xback 20 [(0, .ref a0), (1, .int xv1), (2, .int xv2)] [])) rfl rfl rfl (fun hs => ?_)
  refine xle_clI (t := []) rfl rfl hs (fun x7 h6 => ?_)
  refine xle_if (cd := .eq) (q := 42) rfl rfl rfl xc_eq (fun _ => ?_) (fun _ => ?_)
  · exact xle_jump rfl
  · refine xle_next (i := .aload_n 0) (x' := (27, [(0, .ref a0), (1, .int xv1), (2, .int xv2)], [.ref a0], h6)) rfl rfl rfl ?_
    refine xle_next (i := .iload_n 1) (x' := (28, [(0, .ref a0), (1, .int xv1), (2, .int xv2)], [.int xv1, .ref a0], h6)) rfl rfl rfl ?_
    refine xle_isO (i := .invokevirtual 181) (bq := a0) (ci := 6) (fo := (f_M_has z [.ref a0, .int xv1] h6).bind (xback 28 [(0, .ref a0), (1, .int xv1), (2, .int xv2)] [])) rfl rfl rfl (fun hs => ?_)
    refine xle_clI (t := []) rfl rfl hs (fun x9 h8 => ?_)
    refine xle_if (cd := .eq) (q := 42) rfl rfl rfl xc_eq (fun _ => ?_) (fun _ => ?_)
    · exact xle_jump rfl
    · refine xle_next (i := .aload_n 0) (x' := (35, [(0, .ref a0), (1, .int xv1), (2, .int xv2)], [.ref a0], h8)) rfl rfl rfl ?_
      refine xle_next (i := .iload_n 2) (x' := (36, [(0, .ref a0), (1, .int xv1), (2, .int xv2)], [.int xv2, .ref a0], h8)) rfl rfl rfl ?_
      refine xle_isO (i := .invokevirtual 184) (bq := a0) (ci := 6) (fo := (f_M_leads z [.ref a0, .int xv2] h8).bind (xback 36 [(0, .ref a0), (1, .int xv1), (2, .int xv2)] [])) rfl rfl rfl (fun hs => ?_)
      refine xle_clI (t := []) rfl rfl hs (fun x11 h10 => ?_)
      refine xle_if (cd := .ne) (q := 44) rfl rfl rfl xc_ne (fun _ => ?_) (fun _ => ?_)
      · refine xle_next (i := .aload_n 0) (x' := (45, [(0, .ref a0), (1, .int xv1), (2, .int xv2)], [.ref a0], h10)) rfl rfl rfl ?_
        refine xle_getR (f := (6, 1, .array .int, 0)) rfl rfl rfl (fun r12 => ?_)
        refine xle_next (i := .aload_n 0) (x' := (49, [(0, .ref a0), (1, .int xv1), (2, .int xv2)], [.ref a0, va_rf r12], h10)) rfl rfl rfl ?_
        refine xle_getR (f := (6, 8, .array .int, 0)) rfl rfl rfl (fun r13 => ?_)
        refine xle_next (i := .aload_n 0) (x' := (53, [(0, .ref a0), (1, .int xv1), (2, .int xv2)], [.ref a0, va_rf r13, va_rf r12], h10)) rfl rfl rfl ?_
        refine xle_getI (f := (6, 39, .int, 1)) rfl rfl rfl (fun x14 => ?_)
        refine xle_some (fun r_ => (56, [(0, .ref a0), (1, .int xv1), (2, .int xv2)], [.int x14, va_rf r_, va_rf r12], h10)) (fun a15 => ?_)
        refine xle_iald rfl rfl (fun x16 => ?_)
        refine xle_some (fun r_ => (57, [(0, .ref a0), (1, .int xv1), (2, .int xv2)], [.int x16, va_rf r_], h10)) (fun a17 => ?_)
        refine xle_iald rfl rfl (fun x18 => ?_)
        refine xle_next (i := .iconst 3) (x' := (59, [(0, .ref a0), (1, .int xv1), (2, .int xv2)], [.int (Int32.ofInt 3), .int x18], h10)) rfl rfl rfl ?_
        refine xle_icmp (cd := .ne) (q := 85) rfl rfl rfl xc_ne (fun _ => ?_) (fun _ => ?_)
        · exact xle_jump rfl
        · refine xle_next (i := .aload_n 0) (x' := (63, [(0, .ref a0), (1, .int xv1), (2, .int xv2)], [.ref a0], h10)) rfl rfl rfl ?_
          refine xle_getI (f := (6, 40, .int, 1)) rfl rfl rfl (fun x19 => ?_)
          refine xle_next (i := .bipush 8) (x' := (68, [(0, .ref a0), (1, .int xv1), (2, .int xv2)], [.int ((Int8.ofInt 8).toInt32), .int x19], h10)) rfl rfl rfl ?_
          refine xle_next (i := .idiv) (x' := (69, [(0, .ref a0), (1, .int xv1), (2, .int xv2)], [.int (x19 / ((Int8.ofInt 8).toInt32))], h10)) rfl rfl rfl ?_
          refine xle_next (i := .aload_n 0) (x' := (70, [(0, .ref a0), (1, .int xv1), (2, .int xv2)], [.ref a0, .int (x19 / ((Int8.ofInt 8).toInt32))], h10)) rfl rfl rfl ?_
          refine xle_getR (f := (6, 8, .array .int, 0)) rfl rfl rfl (fun r20 => ?_)
          refine xle_next (i := .aload_n 0) (x' := (74, [(0, .ref a0), (1, .int xv1), (2, .int xv2)], [.ref a0, va_rf r20, .int (x19 / ((Int8.ofInt 8).toInt32))], h10)) rfl rfl rfl ?_
          refine xle_getI (f := (6, 39, .int, 1)) rfl rfl rfl (fun x21 => ?_)
          refine xle_some (fun r_ => (77, [(0, .ref a0), (1, .int xv1), (2, .int xv2)], [.int x21, va_rf r_, .int (x19 / ((Int8.ofInt 8).toInt32))], h10)) (fun a22 => ?_)
          refine xle_iald rfl rfl (fun x23 => ?_)
          refine xle_icmp (cd := .ne) (q := 85) rfl rfl rfl xc_ne (fun _ => ?_) (fun _ => ?_)
          · exact xle_jump rfl
          · refine xle_next (i := .iconst 1) (x' := (82, [(0, .ref a0), (1, .int xv1), (2, .int xv2)], [.int (Int32.ofInt 1)], h10)) rfl rfl rfl ?_
            refine xle_next (i := .goto 4) (x' := (86, [(0, .ref a0), (1, .int xv1), (2, .int xv2)], [.int (Int32.ofInt 1)], h10)) rfl rfl rfl ?_
            exact xle_jump rfl
      · exact xle_jump rfl
noncomputable def D_M_move_42 (z : xzs)  (h : xH) : Option xR :=
  some (.inl (some (.int (Int32.ofInt 0))), h)
set_option maxRecDepth 20000 in
theorem E_M_move_42 (z : xzs)  (h : xH) : xle (D_M_move_42 z  h) (B_M_move_42 z  h) := by
  unfold D_M_move_42 B_M_move_42
  refine xle_next (i := .iconst 0) (x' := (43, [], [.int (Int32.ofInt 0)], h)) rfl rfl rfl ?_
  exact xle_end (i := .ireturn) rfl rfl rfl
noncomputable def D_M_move_85 (z : xzs) (a0 : Nat) (h : xH) : Option xR :=
  B_M_move_86 z a0 (Int32.ofInt 0) h
set_option maxRecDepth 20000 in
theorem E_M_move_85 (z : xzs) (a0 : Nat) (h : xH) : xle (D_M_move_85 z a0 h) (B_M_move_85 z a0 h) := by
  unfold D_M_move_85 B_M_move_85
  refine xle_next (i := .iconst 0) (x' := (86, [(0, .ref a0)], [.int (Int32.ofInt 0)], h)) rfl rfl rfl ?_
  exact xle_jump rfl
noncomputable def D_M_move_86 (z : xzs) (a0 : Nat) (xs0 : Int32) (h : xH) : Option xR :=
  (rdR h a0 6 14).bind fun r24 =>
  (rdI h a0 6 40).bind fun x25 =>
  r24.bind fun a26 =>
  (rdA 0 h a26 x25).bind fun x27 =>
  if ¬ x27 = 0 then
    B_M_move_108 z a0 (some a0) h
  else
    if ¬ xs0 = 0 then
      B_M_move_108 z a0 (some a0) h
    else
      B_M_move_109 z a0 (Int32.ofInt 1) (some a0) h
set_option maxRecDepth 20000 in
theorem E_M_move_86 (z : xzs) (a0 : Nat) (xs0 : Int32) (h : xH) : xle (D_M_move_86 z a0 xs0 h) (B_M_move_86 z a0 xs0 h) := by
  unfold D_M_move_86 B_M_move_86
  refine xle_next (i := .istore_n 3) (x' := (87, [(0, .ref a0), (3, .int xs0)], [], h)) rfl rfl rfl ?_
  refine xle_next (i := .aload_n 0) (x' := (88, [(0, .ref a0), (3, .int xs0)], [.ref a0], h)) rfl rfl rfl ?_
  refine xle_next (i := .aload_n 0) (x' := (89, [(0, .ref a0), (3, .int xs0)], [.ref a0, .ref a0], h)) rfl rfl rfl ?_
  refine xle_getR (f := (6, 14, .array .int, 0)) rfl rfl rfl (fun r24 => ?_)
  refine xle_next (i := .aload_n 0) (x' := (93, [(0, .ref a0), (3, .int xs0)], [.ref a0, va_rf r24, .ref a0], h)) rfl rfl rfl ?_
  refine xle_getI (f := (6, 40, .int, 1)) rfl rfl rfl (fun x25 => ?_)
  refine xle_some (fun r_ => (96, [(0, .ref a0), (3, .int xs0)], [.int x25, va_rf r_, .ref a0], h)) (fun a26 => ?_)
  refine xle_iald rfl rfl (fun x27 => ?_)
  refine xle_if (cd := .ne) (q := 108) rfl rfl rfl xc_ne (fun _ => ?_) (fun _ => ?_)
  · exact xle_jump rfl
  · refine xle_next (i := .iload_n 3) (x' := (101, [(0, .ref a0), (3, .int xs0)], [.int xs0, .ref a0], h)) rfl rfl rfl ?_
    refine xle_if (cd := .ne) (q := 108) rfl rfl rfl xc_ne (fun _ => ?_) (fun _ => ?_)
    · exact xle_jump rfl
    · refine xle_next (i := .iconst 1) (x' := (105, [(0, .ref a0), (3, .int xs0)], [.int (Int32.ofInt 1), .ref a0], h)) rfl rfl rfl ?_
      refine xle_next (i := .goto 4) (x' := (109, [(0, .ref a0), (3, .int xs0)], [.int (Int32.ofInt 1), .ref a0], h)) rfl rfl rfl ?_
      exact xle_jump rfl
noncomputable def D_M_move_108 (z : xzs) (a0 : Nat) (rs0 : Option Nat) (h : xH) : Option xR :=
  B_M_move_109 z a0 (Int32.ofInt 0) rs0 h
set_option maxRecDepth 20000 in
theorem E_M_move_108 (z : xzs) (a0 : Nat) (rs0 : Option Nat) (h : xH) : xle (D_M_move_108 z a0 rs0 h) (B_M_move_108 z a0 rs0 h) := by
  unfold D_M_move_108 B_M_move_108
  refine xle_next (i := .iconst 0) (x' := (109, [(0, .ref a0)], [.int (Int32.ofInt 0), va_rf rs0], h)) rfl rfl rfl ?_
  exact xle_jump rfl
noncomputable def D_M_move_109 (z : xzs) (a0 : Nat) (xs0 : Int32) (rs1 : Option Nat) (h : xH) : Option xR :=
  rs1.bind fun a28 =>
  (xisO h a28 6).bind fun _ => xclI (f_M_so z [.ref a28, .int xs0] h) fun x30 h29 =>
  if ¬ x30 = 0 then
    (rdR h29 a0 6 14).bind fun r31 =>
    (rdI h29 a0 6 39).bind fun x32 =>
    (xisO h29 a0 6).bind fun _ => xclI (f_M_slotOf z [.ref a0, .int x32] h29) fun x34 h33 =>
    r31.bind fun a35 =>
    (wrI h33 a35 x34 (Int32.ofInt 0)).bind fun h36 =>
    (rdR h36 a0 6 14).bind fun r37 =>
    (rdI h36 a0 6 40).bind fun x38 =>
    (rdI h36 a0 6 39).bind fun x39 =>
    r37.bind fun a40 =>
    (wrI h36 a40 x38 x39).bind fun h41 =>
    some (.inl (some (.int (Int32.ofInt 0))), h41)
  else
    some (.inl (some (.int (Int32.ofInt 0))), h29)
set_option maxRecDepth 20000 in
theorem E_M_move_109 (z : xzs) (a0 : Nat) (xs0 : Int32) (rs1 : Option Nat) (h : xH) : xle (D_M_move_109 z a0 xs0 rs1 h) (B_M_move_109 z a0 xs0 rs1 h) := by
  unfold D_M_move_109 B_M_move_109
  refine xle_some (fun r_ => (109, [(0, .ref a0)], [.int xs0, va_rf r_], h)) (fun a28 => ?_)
  refine xle_isO (i := .invokevirtual 187) (bq := a28) (ci := 6) (fo := (f_M_so z [.ref a28, .int xs0] h).bind (xback 109 [(0, .ref a0)] [])) rfl rfl rfl (fun hs => ?_)
  refine xle_clI (t := []) rfl rfl hs (fun x30 h29 => ?_)
  refine xle_if (cd := .ne) (q := 117) rfl rfl rfl xc_ne (fun _ => ?_) (fun _ => ?_)
  · refine xle_next (i := .aload_n 0) (x' := (118, [(0, .ref a0)], [.ref a0], h29)) rfl rfl rfl ?_
    refine xle_getR (f := (6, 14, .array .int, 0)) rfl rfl rfl (fun r31 => ?_)
    refine xle_next (i := .aload_n 0) (x' := (122, [(0, .ref a0)], [.ref a0, va_rf r31], h29)) rfl rfl rfl ?_
    refine xle_next (i := .aload_n 0) (x' := (123, [(0, .ref a0)], [.ref a0, .ref a0, va_rf r31], h29)) rfl rfl rfl ?_
    refine xle_getI (f := (6, 39, .int, 1)) rfl rfl rfl (fun x32 => ?_)
    refine xle_isO (i := .invokevirtual 139) (bq := a0) (ci := 6) (fo := (f_M_slotOf z [.ref a0, .int x32] h29).bind (xback 126 [(0, .ref a0)] [va_rf r31])) rfl rfl rfl (fun hs => ?_)
    refine xle_clI (t := [va_rf r31]) rfl rfl hs (fun x34 h33 => ?_)
    refine xle_next (i := .iconst 0) (x' := (130, [(0, .ref a0)], [.int (Int32.ofInt 0), .int x34, va_rf r31], h33)) rfl rfl rfl ?_
    refine xle_some (fun r_ => (130, [(0, .ref a0)], [.int (Int32.ofInt 0), .int x34, va_rf r_], h33)) (fun a35 => ?_)
    refine xle_iast rfl rfl (fun h36 => ?_)
    refine xle_next (i := .aload_n 0) (x' := (132, [(0, .ref a0)], [.ref a0], h36)) rfl rfl rfl ?_
    refine xle_getR (f := (6, 14, .array .int, 0)) rfl rfl rfl (fun r37 => ?_)
    refine xle_next (i := .aload_n 0) (x' := (136, [(0, .ref a0)], [.ref a0, va_rf r37], h36)) rfl rfl rfl ?_
    refine xle_getI (f := (6, 40, .int, 1)) rfl rfl rfl (fun x38 => ?_)
    refine xle_next (i := .aload_n 0) (x' := (140, [(0, .ref a0)], [.ref a0, .int x38, va_rf r37], h36)) rfl rfl rfl ?_
    refine xle_getI (f := (6, 39, .int, 1)) rfl rfl rfl (fun x39 => ?_)
    refine xle_some (fun r_ => (143, [(0, .ref a0)], [.int x39, .int x38, va_rf r_], h36)) (fun a40 => ?_)
    refine xle_iast rfl rfl (fun h41 => ?_)
    refine xle_next (i := .iconst 0) (x' := (145, [(0, .ref a0)], [.int (Int32.ofInt 0)], h41)) rfl rfl rfl ?_
    exact xle_end (i := .ireturn) rfl rfl rfl
  · refine xle_next (i := .iconst 0) (x' := (116, [(0, .ref a0)], [.int (Int32.ofInt 0)], h29)) rfl rfl rfl ?_
    exact xle_end (i := .ireturn) rfl rfl rfl
noncomputable def B_M_delete_30 (z : xzs)  (h : xH) : Option xR := xev (K_M_delete z) (30, [], [], h)
noncomputable def B_M_delete_31 (z : xzs) (xs0 : Int32) (h : xH) : Option xR := xev (K_M_delete z) (31, [], [.int xs0], h)
noncomputable def D_M_delete_0 (z : xzs) (a0 : Nat) (p1 : Int32) (h : xH) : Option xR :=
  xclI (f_M_reaches z [.int p1] h) fun x2 h1 =>
  (xisO h1 a0 6).bind fun _ => xclI (f_M_begins z [.ref a0, .int x2] h1) fun x4 h3 =>
  if x4 = 0 then
    B_M_delete_30 z h3
  else
    (xisO h3 a0 6).bind fun _ => xclI (f_M_has z [.ref a0, .int p1] h3) fun x6 h5 =>
    if x6 = 0 then
      B_M_delete_30 z h5
    else
      (rdI h5 a0 6 39).bind fun x7 =>
      (xisO h5 a0 6).bind fun _ => xclI (f_M_drop z [.ref a0, .int x7] h5) fun x9 h8 =>
      B_M_delete_31 z x9 h8
set_option maxRecDepth 20000 in
theorem E_M_delete (z : xzs) (a0 : Nat) (p1 : Int32) (h : xH) : xle (D_M_delete_0 z a0 p1 h) (xfun (K_M_delete z) 2 [.ref a0, .int p1] h) := by
  unfold D_M_delete_0
  refine xle_entry (Nat.le_of_ble_eq_true rfl) (xal_c (xca_a _) (xal_c (xca_i _) (rfl))) ?_
  show xle _ (xev (K_M_delete z) (0, [(0, .ref a0), (1, .int p1)], [], h))
  refine xle_next (i := .aload_n 0) (x' := (1, [(0, .ref a0), (1, .int p1)], [.ref a0], h)) rfl rfl rfl ?_
  refine xle_next (i := .iload_n 1) (x' := (2, [(0, .ref a0), (1, .int p1)], [.int p1, .ref a0], h)) rfl rfl rfl ?_
  refine xle_clI (i := .invokestatic 173) (fo := f_M_reaches z [.int p1] h) (t := [.ref a0]) rfl rfl rfl (fun x2 h1 => ?_)
  refine xle_isO (i := .invokevirtual 177) (bq := a0) (ci := 6) (fo := (f_M_begins z [.ref a0, .int x2] h1).bind (xback 5 [(0, .ref a0), (1, .int p1)] [])) rfl rfl rfl (fun hs => ?_)
  refine xle_clI (t := []) rfl rfl hs (fun x4 h3 => ?_)
  refine xle_if (cd := .eq) (q := 30) rfl rfl rfl xc_eq (fun _ => ?_) (fun _ => ?_)
  · exact xle_jump rfl
  · refine xle_next (i := .aload_n 0) (x' := (12, [(0, .ref a0), (1, .int p1)], [.ref a0], h3)) rfl rfl rfl ?_
    refine xle_next (i := .iload_n 1) (x' := (13, [(0, .ref a0), (1, .int p1)], [.int p1, .ref a0], h3)) rfl rfl rfl ?_
    refine xle_isO (i := .invokevirtual 181) (bq := a0) (ci := 6) (fo := (f_M_has z [.ref a0, .int p1] h3).bind (xback 13 [(0, .ref a0), (1, .int p1)] [])) rfl rfl rfl (fun hs => ?_)
    refine xle_clI (t := []) rfl rfl hs (fun x6 h5 => ?_)
    refine xle_if (cd := .eq) (q := 30) rfl rfl rfl xc_eq (fun _ => ?_) (fun _ => ?_)
    · exact xle_jump rfl
    · refine xle_next (i := .aload_n 0) (x' := (20, [(0, .ref a0), (1, .int p1)], [.ref a0], h5)) rfl rfl rfl ?_
      refine xle_next (i := .aload_n 0) (x' := (21, [(0, .ref a0), (1, .int p1)], [.ref a0, .ref a0], h5)) rfl rfl rfl ?_
      refine xle_getI (f := (6, 39, .int, 1)) rfl rfl rfl (fun x7 => ?_)
      refine xle_isO (i := .invokevirtual 193) (bq := a0) (ci := 6) (fo := (f_M_drop z [.ref a0, .int x7] h5).bind (xback 24 [(0, .ref a0), (1, .int p1)] [])) rfl rfl rfl (fun hs => ?_)
      refine xle_clI (t := []) rfl rfl hs (fun x9 h8 => ?_)
      refine xle_next (i := .goto 4) (x' := (31, [(0, .ref a0), (1, .int p1)], [.int x9], h8)) rfl rfl rfl ?_
      exact xle_jump rfl
noncomputable def D_M_delete_30 (z : xzs)  (h : xH) : Option xR :=
  B_M_delete_31 z (Int32.ofInt 0) h
set_option maxRecDepth 20000 in
theorem E_M_delete_30 (z : xzs)  (h : xH) : xle (D_M_delete_30 z  h) (B_M_delete_30 z  h) := by
  unfold D_M_delete_30 B_M_delete_30
  refine xle_next (i := .iconst 0) (x' := (31, [], [.int (Int32.ofInt 0)], h)) rfl rfl rfl ?_
  exact xle_jump rfl
noncomputable def D_M_delete_31 (z : xzs) (xs0 : Int32) (h : xH) : Option xR :=
  some (.inl (some (.int xs0)), h)
set_option maxRecDepth 20000 in
theorem E_M_delete_31 (z : xzs) (xs0 : Int32) (h : xH) : xle (D_M_delete_31 z xs0 h) (B_M_delete_31 z xs0 h) := by
  unfold D_M_delete_31 B_M_delete_31
  exact xle_end (i := .ireturn) rfl rfl rfl
noncomputable def B_M_revoke_19 (z : xzs)  (h : xH) : Option xR := xev (K_M_revoke z) (19, [], [], h)
noncomputable def B_M_revoke_43 (z : xzs) (a0 : Nat) (xv2 : Int32) (xv3 : Int32) (xv4 : Int32) (xv5 : Int32) (h : xH) : Option xR := xev (K_M_revoke z) (43, [(0, .ref a0), (2, .int xv2), (3, .int xv3), (4, .int xv4), (5, .int xv5)], [], h)
noncomputable def B_M_revoke_96 (z : xzs) (a0 : Nat) (xv3 : Int32) (xv4 : Int32) (xs0 : Int32) (h : xH) : Option xR := xev (K_M_revoke z) (96, [(0, .ref a0), (3, .int xv3), (4, .int xv4)], [.int xs0], h)
noncomputable def B_M_revoke_77 (z : xzs) (a0 : Nat) (xv2 : Int32) (xv3 : Int32) (xv4 : Int32) (xs0 : Int32) (h : xH) : Option xR := xev (K_M_revoke z) (77, [(0, .ref a0), (2, .int xv2), (3, .int xv3), (4, .int xv4)], [.int xs0], h)
noncomputable def B_M_revoke_102 (z : xzs) (a0 : Nat) (xv3 : Int32) (xv4 : Int32) (xv6 : Int32) (xv7 : Int32) (h : xH) : Option xR := xev (K_M_revoke z) (102, [(0, .ref a0), (3, .int xv3), (4, .int xv4), (6, .int xv6), (7, .int xv7)], [], h)
noncomputable def B_M_revoke_153 (z : xzs) (xv4 : Int32) (h : xH) : Option xR := xev (K_M_revoke z) (153, [(4, .int xv4)], [], h)
noncomputable def B_M_revoke_135 (z : xzs) (a0 : Nat) (xv3 : Int32) (xv4 : Int32) (xv6 : Int32) (xv7 : Int32) (h : xH) : Option xR := xev (K_M_revoke z) (135, [(0, .ref a0), (3, .int xv3), (4, .int xv4), (6, .int xv6), (7, .int xv7)], [], h)
noncomputable def D_M_revoke_0 (z : xzs) (a0 : Nat) (p1 : Int32) (h : xH) : Option xR :=
  xclI (f_M_reaches z [.int p1] h) fun x2 h1 =>
  (xisO h1 a0 6).bind fun _ => xclI (f_M_begins z [.ref a0, .int x2] h1) fun x4 h3 =>
  if x4 = 0 then
    B_M_revoke_19 z h3
  else
    (xisO h3 a0 6).bind fun _ => xclI (f_M_has z [.ref a0, .int p1] h3) fun x6 h5 =>
    if ¬ x6 = 0 then
      (rdI h5 a0 6 39).bind fun x7 =>
      (rdR h5 a0 6 8).bind fun r8 =>
      r8.bind fun a9 =>
      (rdA 0 h5 a9 x7).bind fun x10 =>
      (xisO h5 a0 6).bind fun _ => xclI (f_M_youngest z [.ref a0, .int x7] h5) fun x12 h11 =>
      B_M_revoke_43 z a0 x7 x10 (Int32.ofInt 0) x12 h11
    else
      B_M_revoke_19 z h5
set_option maxRecDepth 20000 in
theorem E_M_revoke (z : xzs) (a0 : Nat) (p1 : Int32) (h : xH) : xle (D_M_revoke_0 z a0 p1 h) (xfun (K_M_revoke z) 8 [.ref a0, .int p1] h) := by
  unfold D_M_revoke_0
  refine xle_entry (Nat.le_of_ble_eq_true rfl) (xal_c (xca_a _) (xal_c (xca_i _) (rfl))) ?_
  show xle _ (xev (K_M_revoke z) (0, [(0, .ref a0), (1, .int p1)], [], h))
  refine xle_next (i := .aload_n 0) (x' := (1, [(0, .ref a0), (1, .int p1)], [.ref a0], h)) rfl rfl rfl ?_
  refine xle_next (i := .iload_n 1) (x' := (2, [(0, .ref a0), (1, .int p1)], [.int p1, .ref a0], h)) rfl rfl rfl ?_
  refine xle_clI (i := .invokestatic 173) (fo := f_M_reaches z [.int p1] h) (t := [.ref a0]) rfl rfl rfl (fun x2 h1 => ?_)
  refine xle_isO (i := .invokevirtual 177) (bq := a0) (ci := 6) (fo := (f_M_begins z [.ref a0, .int x2] h1).bind (xback 5 [(0, .ref a0), (1, .int p1)] [])) rfl rfl rfl (fun hs => ?_)
  refine xle_clI (t := []) rfl rfl hs (fun x4 h3 => ?_)
  refine xle_if (cd := .eq) (q := 19) rfl rfl rfl xc_eq (fun _ => ?_) (fun _ => ?_)
  · exact xle_jump rfl
  · refine xle_next (i := .aload_n 0) (x' := (12, [(0, .ref a0), (1, .int p1)], [.ref a0], h3)) rfl rfl rfl ?_
    refine xle_next (i := .iload_n 1) (x' := (13, [(0, .ref a0), (1, .int p1)], [.int p1, .ref a0], h3)) rfl rfl rfl ?_
    refine xle_isO (i := .invokevirtual 181) (bq := a0) (ci := 6) (fo := (f_M_has z [.ref a0, .int p1] h3).bind (xback 13 [(0, .ref a0), (1, .int p1)] [])) rfl rfl rfl (fun hs => ?_)
    refine xle_clI (t := []) rfl rfl hs (fun x6 h5 => ?_)
    refine xle_if (cd := .ne) (q := 21) rfl rfl rfl xc_ne (fun _ => ?_) (fun _ => ?_)
    · refine xle_next (i := .aload_n 0) (x' := (22, [(0, .ref a0), (1, .int p1)], [.ref a0], h5)) rfl rfl rfl ?_
      refine xle_getI (f := (6, 39, .int, 1)) rfl rfl rfl (fun x7 => ?_)
      refine xle_next (i := .istore_n 2) (x' := (26, [(0, .ref a0), (1, .int p1), (2, .int x7)], [], h5)) rfl rfl rfl ?_
      refine xle_next (i := .aload_n 0) (x' := (27, [(0, .ref a0), (1, .int p1), (2, .int x7)], [.ref a0], h5)) rfl rfl rfl ?_
      refine xle_getR (f := (6, 8, .array .int, 0)) rfl rfl rfl (fun r8 => ?_)
      refine xle_next (i := .iload_n 2) (x' := (31, [(0, .ref a0), (1, .int p1), (2, .int x7)], [.int x7, va_rf r8], h5)) rfl rfl rfl ?_
      refine xle_some (fun r_ => (31, [(0, .ref a0), (1, .int p1), (2, .int x7)], [.int x7, va_rf r_], h5)) (fun a9 => ?_)
      refine xle_iald rfl rfl (fun x10 => ?_)
      refine xle_next (i := .istore_n 3) (x' := (33, [(0, .ref a0), (1, .int p1), (2, .int x7), (3, .int x10)], [], h5)) rfl rfl rfl ?_
      refine xle_next (i := .iconst 0) (x' := (34, [(0, .ref a0), (1, .int p1), (2, .int x7), (3, .int x10)], [.int (Int32.ofInt 0)], h5)) rfl rfl rfl ?_
      refine xle_next (i := .istore 4) (x' := (36, [(0, .ref a0), (1, .int p1), (2, .int x7), (3, .int x10), (4, .int (Int32.ofInt 0))], [], h5)) rfl rfl rfl ?_
      refine xle_next (i := .aload_n 0) (x' := (37, [(0, .ref a0), (1, .int p1), (2, .int x7), (3, .int x10), (4, .int (Int32.ofInt 0))], [.ref a0], h5)) rfl rfl rfl ?_
      refine xle_next (i := .iload_n 2) (x' := (38, [(0, .ref a0), (1, .int p1), (2, .int x7), (3, .int x10), (4, .int (Int32.ofInt 0))], [.int x7, .ref a0], h5)) rfl rfl rfl ?_
      refine xle_isO (i := .invokevirtual 196) (bq := a0) (ci := 6) (fo := (f_M_youngest z [.ref a0, .int x7] h5).bind (xback 38 [(0, .ref a0), (1, .int p1), (2, .int x7), (3, .int x10), (4, .int (Int32.ofInt 0))] [])) rfl rfl rfl (fun hs => ?_)
      refine xle_clI (t := []) rfl rfl hs (fun x12 h11 => ?_)
      refine xle_next (i := .istore 5) (x' := (43, [(0, .ref a0), (1, .int p1), (2, .int x7), (3, .int x10), (4, .int (Int32.ofInt 0)), (5, .int x12)], [], h11)) rfl rfl rfl ?_
      exact xle_jump rfl
    · exact xle_jump rfl
noncomputable def D_M_revoke_19 (z : xzs)  (h : xH) : Option xR :=
  some (.inl (some (.int (Int32.ofInt 0))), h)
set_option maxRecDepth 20000 in
theorem E_M_revoke_19 (z : xzs)  (h : xH) : xle (D_M_revoke_19 z  h) (B_M_revoke_19 z  h) := by
  unfold D_M_revoke_19 B_M_revoke_19
  refine xle_next (i := .iconst 0) (x' := (20, [], [.int (Int32.ofInt 0)], h)) rfl rfl rfl ?_
  exact xle_end (i := .ireturn) rfl rfl rfl
noncomputable def D_M_revoke_43 (z : xzs) (a0 : Nat) (xv2 : Int32) (xv3 : Int32) (xv4 : Int32) (xv5 : Int32) (h : xH) : Option xR :=
  if xv5 ≤ 0 then
    (rdR h a0 6 1).bind fun r13 =>
    r13.bind fun a14 =>
    (rdA 0 h a14 xv3).bind fun x15 =>
    if ¬ x15 = 0 then
      B_M_revoke_96 z a0 xv3 xv4 (Int32.ofInt 0) h
    else
      B_M_revoke_96 z a0 xv3 xv4 (Int32.ofInt 1) h
  else
    (xisO h a0 6).bind fun _ => xclI (f_M_drop z [.ref a0, .int xv5] h) fun x17 h16 =>
    (rdR h16 a0 6 12).bind fun r18 =>
    r18.bind fun a19 =>
    (rdA 1 h16 a19 xv2).bind fun x20 =>
    if x20 = 0 then
      B_M_revoke_77 z a0 xv2 xv3 (xv4 + x17) (Int32.ofInt 0) h16
    else
      (xisO h16 a0 6).bind fun _ => xclI (f_M_youngest z [.ref a0, .int xv2] h16) fun x22 h21 =>
      B_M_revoke_77 z a0 xv2 xv3 (xv4 + x17) x22 h21
set_option maxRecDepth 20000 in
theorem E_M_revoke_43 (z : xzs) (a0 : Nat) (xv2 : Int32) (xv3 : Int32) (xv4 : Int32) (xv5 : Int32) (h : xH) : xle (D_M_revoke_43 z a0 xv2 xv3 xv4 xv5 h) (B_M_revoke_43 z a0 xv2 xv3 xv4 xv5 h) := by
  unfold D_M_revoke_43 B_M_revoke_43
  refine xle_next (i := .iload 5) (x' := (45, [(0, .ref a0), (2, .int xv2), (3, .int xv3), (4, .int xv4), (5, .int xv5)], [.int xv5], h)) rfl rfl rfl ?_
  refine xle_if (cd := .le) (q := 82) rfl rfl rfl xc_le (fun _ => ?_) (fun _ => ?_)
  · refine xle_next (i := .aload_n 0) (x' := (83, [(0, .ref a0), (2, .int xv2), (3, .int xv3), (4, .int xv4), (5, .int xv5)], [.ref a0], h)) rfl rfl rfl ?_
    refine xle_getR (f := (6, 1, .array .int, 0)) rfl rfl rfl (fun r13 => ?_)
    refine xle_next (i := .iload_n 3) (x' := (87, [(0, .ref a0), (2, .int xv2), (3, .int xv3), (4, .int xv4), (5, .int xv5)], [.int xv3, va_rf r13], h)) rfl rfl rfl ?_
    refine xle_some (fun r_ => (87, [(0, .ref a0), (2, .int xv2), (3, .int xv3), (4, .int xv4), (5, .int xv5)], [.int xv3, va_rf r_], h)) (fun a14 => ?_)
    refine xle_iald rfl rfl (fun x15 => ?_)
    refine xle_if (cd := .ne) (q := 95) rfl rfl rfl xc_ne (fun _ => ?_) (fun _ => ?_)
    · refine xle_next (i := .iconst 0) (x' := (96, [(0, .ref a0), (2, .int xv2), (3, .int xv3), (4, .int xv4), (5, .int xv5)], [.int (Int32.ofInt 0)], h)) rfl rfl rfl ?_
      exact xle_jump rfl
    · refine xle_next (i := .iconst 1) (x' := (92, [(0, .ref a0), (2, .int xv2), (3, .int xv3), (4, .int xv4), (5, .int xv5)], [.int (Int32.ofInt 1)], h)) rfl rfl rfl ?_
      refine xle_next (i := .goto 4) (x' := (96, [(0, .ref a0), (2, .int xv2), (3, .int xv3), (4, .int xv4), (5, .int xv5)], [.int (Int32.ofInt 1)], h)) rfl rfl rfl ?_
      exact xle_jump rfl
  · refine xle_next (i := .iload 4) (x' := (50, [(0, .ref a0), (2, .int xv2), (3, .int xv3), (4, .int xv4), (5, .int xv5)], [.int xv4], h)) rfl rfl rfl ?_
    refine xle_next (i := .aload_n 0) (x' := (51, [(0, .ref a0), (2, .int xv2), (3, .int xv3), (4, .int xv4), (5, .int xv5)], [.ref a0, .int xv4], h)) rfl rfl rfl ?_
    refine xle_next (i := .iload 5) (x' := (53, [(0, .ref a0), (2, .int xv2), (3, .int xv3), (4, .int xv4), (5, .int xv5)], [.int xv5, .ref a0, .int xv4], h)) rfl rfl rfl ?_
    refine xle_isO (i := .invokevirtual 193) (bq := a0) (ci := 6) (fo := (f_M_drop z [.ref a0, .int xv5] h).bind (xback 53 [(0, .ref a0), (2, .int xv2), (3, .int xv3), (4, .int xv4), (5, .int xv5)] [.int xv4])) rfl rfl rfl (fun hs => ?_)
    refine xle_clI (t := [.int xv4]) rfl rfl hs (fun x17 h16 => ?_)
    refine xle_next (i := .iadd) (x' := (57, [(0, .ref a0), (2, .int xv2), (3, .int xv3), (4, .int xv4), (5, .int xv5)], [.int (xv4 + x17)], h16)) rfl rfl rfl ?_
    refine xle_next (i := .istore 4) (x' := (59, [(0, .ref a0), (2, .int xv2), (3, .int xv3), (4, .int (xv4 + x17)), (5, .int xv5)], [], h16)) rfl rfl rfl ?_
    refine xle_next (i := .aload_n 0) (x' := (60, [(0, .ref a0), (2, .int xv2), (3, .int xv3), (4, .int (xv4 + x17)), (5, .int xv5)], [.ref a0], h16)) rfl rfl rfl ?_
    refine xle_getR (f := (6, 12, .array .boolean, 0)) rfl rfl rfl (fun r18 => ?_)
    refine xle_next (i := .iload_n 2) (x' := (64, [(0, .ref a0), (2, .int xv2), (3, .int xv3), (4, .int (xv4 + x17)), (5, .int xv5)], [.int xv2, va_rf r18], h16)) rfl rfl rfl ?_
    refine xle_some (fun r_ => (64, [(0, .ref a0), (2, .int xv2), (3, .int xv3), (4, .int (xv4 + x17)), (5, .int xv5)], [.int xv2, va_rf r_], h16)) (fun a19 => ?_)
    refine xle_bald rfl rfl (fun x20 => ?_)
    refine xle_if (cd := .eq) (q := 76) rfl rfl rfl xc_eq (fun _ => ?_) (fun _ => ?_)
    · refine xle_next (i := .iconst 0) (x' := (77, [(0, .ref a0), (2, .int xv2), (3, .int xv3), (4, .int (xv4 + x17)), (5, .int xv5)], [.int (Int32.ofInt 0)], h16)) rfl rfl rfl ?_
      exact xle_jump rfl
    · refine xle_next (i := .aload_n 0) (x' := (69, [(0, .ref a0), (2, .int xv2), (3, .int xv3), (4, .int (xv4 + x17)), (5, .int xv5)], [.ref a0], h16)) rfl rfl rfl ?_
      refine xle_next (i := .iload_n 2) (x' := (70, [(0, .ref a0), (2, .int xv2), (3, .int xv3), (4, .int (xv4 + x17)), (5, .int xv5)], [.int xv2, .ref a0], h16)) rfl rfl rfl ?_
      refine xle_isO (i := .invokevirtual 196) (bq := a0) (ci := 6) (fo := (f_M_youngest z [.ref a0, .int xv2] h16).bind (xback 70 [(0, .ref a0), (2, .int xv2), (3, .int xv3), (4, .int (xv4 + x17)), (5, .int xv5)] [])) rfl rfl rfl (fun hs => ?_)
      refine xle_clI (t := []) rfl rfl hs (fun x22 h21 => ?_)
      refine xle_next (i := .goto 4) (x' := (77, [(0, .ref a0), (2, .int xv2), (3, .int xv3), (4, .int (xv4 + x17)), (5, .int xv5)], [.int x22], h21)) rfl rfl rfl ?_
      exact xle_jump rfl
noncomputable def D_M_revoke_96 (z : xzs) (a0 : Nat) (xv3 : Int32) (xv4 : Int32) (xs0 : Int32) (h : xH) : Option xR :=
  B_M_revoke_102 z a0 xv3 xv4 xs0 ((Int8.ofInt 10).toInt32) h
set_option maxRecDepth 20000 in
theorem E_M_revoke_96 (z : xzs) (a0 : Nat) (xv3 : Int32) (xv4 : Int32) (xs0 : Int32) (h : xH) : xle (D_M_revoke_96 z a0 xv3 xv4 xs0 h) (B_M_revoke_96 z a0 xv3 xv4 xs0 h) := by
  unfold D_M_revoke_96 B_M_revoke_96
  refine xle_next (i := .istore 6) (x' := (98, [(0, .ref a0), (3, .int xv3), (4, .int xv4), (6, .int xs0)], [], h)) rfl rfl rfl ?_
  refine xle_next (i := .bipush 10) (x' := (100, [(0, .ref a0), (3, .int xv3), (4, .int xv4), (6, .int xs0)], [.int ((Int8.ofInt 10).toInt32)], h)) rfl rfl rfl ?_
  refine xle_next (i := .istore 7) (x' := (102, [(0, .ref a0), (3, .int xv3), (4, .int xv4), (6, .int xs0), (7, .int ((Int8.ofInt 10).toInt32))], [], h)) rfl rfl rfl ?_
  exact xle_jump rfl
noncomputable def D_M_revoke_77 (z : xzs) (a0 : Nat) (xv2 : Int32) (xv3 : Int32) (xv4 : Int32) (xs0 : Int32) (h : xH) : Option xR :=
  B_M_revoke_43 z a0 xv2 xv3 xv4 xs0 h
set_option maxRecDepth 20000 in
theorem E_M_revoke_77 (z : xzs) (a0 : Nat) (xv2 : Int32) (xv3 : Int32) (xv4 : Int32) (xs0 : Int32) (h : xH) : xle (D_M_revoke_77 z a0 xv2 xv3 xv4 xs0 h) (B_M_revoke_77 z a0 xv2 xv3 xv4 xs0 h) := by
  unfold D_M_revoke_77 B_M_revoke_77
  refine xle_next (i := .istore 5) (x' := (79, [(0, .ref a0), (2, .int xv2), (3, .int xv3), (4, .int xv4), (5, .int xs0)], [], h)) rfl rfl rfl ?_
  refine xle_next (i := .goto (-36)) (x' := (43, [(0, .ref a0), (2, .int xv2), (3, .int xv3), (4, .int xv4), (5, .int xs0)], [], h)) rfl rfl rfl ?_
  exact xle_jump rfl
noncomputable def D_M_revoke_102 (z : xzs) (a0 : Nat) (xv3 : Int32) (xv4 : Int32) (xv6 : Int32) (xv7 : Int32) (h : xH) : Option xR :=
  (rdI h a0 6 7).bind fun x23 =>
  if x23 ≤ xv7 then
    if xv6 = 0 then
      B_M_revoke_153 z xv4 h
    else
      (rdR h a0 6 3).bind fun r24 =>
      r24.bind fun a25 =>
      (wrI h a25 xv3 (Int32.ofInt 0)).bind fun h26 =>
      B_M_revoke_153 z xv4 h26
  else
    (rdR h a0 6 6).bind fun r27 =>
    r27.bind fun a28 =>
    (rdA 1 h a28 xv7).bind fun x29 =>
    if x29 = 0 then
      B_M_revoke_135 z a0 xv3 xv4 xv6 xv7 h
    else
      (rdR h a0 6 5).bind fun r30 =>
      r30.bind fun a31 =>
      (rdA 0 h a31 xv7).bind fun x32 =>
      if ¬ x32 = xv3 then
        B_M_revoke_135 z a0 xv3 xv4 xv6 xv7 h
      else
        B_M_revoke_135 z a0 xv3 xv4 (Int32.ofInt 0) xv7 h
set_option maxRecDepth 20000 in
theorem E_M_revoke_102 (z : xzs) (a0 : Nat) (xv3 : Int32) (xv4 : Int32) (xv6 : Int32) (xv7 : Int32) (h : xH) : xle (D_M_revoke_102 z a0 xv3 xv4 xv6 xv7 h) (B_M_revoke_102 z a0 xv3 xv4 xv6 xv7 h) := by
  unfold D_M_revoke_102 B_M_revoke_102
  refine xle_next (i := .iload 7) (x' := (104, [(0, .ref a0), (3, .int xv3), (4, .int xv4), (6, .int xv6), (7, .int xv7)], [.int xv7], h)) rfl rfl rfl ?_
  refine xle_next (i := .aload_n 0) (x' := (105, [(0, .ref a0), (3, .int xv3), (4, .int xv4), (6, .int xv6), (7, .int xv7)], [.ref a0, .int xv7], h)) rfl rfl rfl ?_
  refine xle_getI (f := (6, 7, .int, 1)) rfl rfl rfl (fun x23 => ?_)
  refine xle_icmp (cd := .ge) (q := 141) rfl rfl rfl xc_ge (fun _ => ?_) (fun _ => ?_)
  · refine xle_next (i := .iload 6) (x' := (143, [(0, .ref a0), (3, .int xv3), (4, .int xv4), (6, .int xv6), (7, .int xv7)], [.int xv6], h)) rfl rfl rfl ?_
    refine xle_if (cd := .eq) (q := 153) rfl rfl rfl xc_eq (fun _ => ?_) (fun _ => ?_)
    · exact xle_jump rfl
    · refine xle_next (i := .aload_n 0) (x' := (147, [(0, .ref a0), (3, .int xv3), (4, .int xv4), (6, .int xv6), (7, .int xv7)], [.ref a0], h)) rfl rfl rfl ?_
      refine xle_getR (f := (6, 3, .array .int, 0)) rfl rfl rfl (fun r24 => ?_)
      refine xle_next (i := .iload_n 3) (x' := (151, [(0, .ref a0), (3, .int xv3), (4, .int xv4), (6, .int xv6), (7, .int xv7)], [.int xv3, va_rf r24], h)) rfl rfl rfl ?_
      refine xle_next (i := .iconst 0) (x' := (152, [(0, .ref a0), (3, .int xv3), (4, .int xv4), (6, .int xv6), (7, .int xv7)], [.int (Int32.ofInt 0), .int xv3, va_rf r24], h)) rfl rfl rfl ?_
      refine xle_some (fun r_ => (152, [(0, .ref a0), (3, .int xv3), (4, .int xv4), (6, .int xv6), (7, .int xv7)], [.int (Int32.ofInt 0), .int xv3, va_rf r_], h)) (fun a25 => ?_)
      refine xle_iast rfl rfl (fun h26 => ?_)
      exact xle_jump rfl
  · refine xle_next (i := .aload_n 0) (x' := (112, [(0, .ref a0), (3, .int xv3), (4, .int xv4), (6, .int xv6), (7, .int xv7)], [.ref a0], h)) rfl rfl rfl ?_
    refine xle_getR (f := (6, 6, .array .boolean, 0)) rfl rfl rfl (fun r27 => ?_)
    refine xle_next (i := .iload 7) (x' := (117, [(0, .ref a0), (3, .int xv3), (4, .int xv4), (6, .int xv6), (7, .int xv7)], [.int xv7, va_rf r27], h)) rfl rfl rfl ?_
    refine xle_some (fun r_ => (117, [(0, .ref a0), (3, .int xv3), (4, .int xv4), (6, .int xv6), (7, .int xv7)], [.int xv7, va_rf r_], h)) (fun a28 => ?_)
    refine xle_bald rfl rfl (fun x29 => ?_)
    refine xle_if (cd := .eq) (q := 135) rfl rfl rfl xc_eq (fun _ => ?_) (fun _ => ?_)
    · exact xle_jump rfl
    · refine xle_next (i := .aload_n 0) (x' := (122, [(0, .ref a0), (3, .int xv3), (4, .int xv4), (6, .int xv6), (7, .int xv7)], [.ref a0], h)) rfl rfl rfl ?_
      refine xle_getR (f := (6, 5, .array .int, 0)) rfl rfl rfl (fun r30 => ?_)
      refine xle_next (i := .iload 7) (x' := (127, [(0, .ref a0), (3, .int xv3), (4, .int xv4), (6, .int xv6), (7, .int xv7)], [.int xv7, va_rf r30], h)) rfl rfl rfl ?_
      refine xle_some (fun r_ => (127, [(0, .ref a0), (3, .int xv3), (4, .int xv4), (6, .int xv6), (7, .int xv7)], [.int xv7, va_rf r_], h)) (fun a31 => ?_)
      refine xle_iald rfl rfl (fun x32 => ?_)
      refine xle_next (i := .iload_n 3) (x' := (129, [(0, .ref a0), (3, .int xv3), (4, .int xv4), (6, .int xv6), (7, .int xv7)], [.int xv3, .int x32], h)) rfl rfl rfl ?_
      refine xle_icmp (cd := .ne) (q := 135) rfl rfl rfl xc_ne (fun _ => ?_) (fun _ => ?_)
      · exact xle_jump rfl
      · refine xle_next (i := .iconst 0) (x' := (133, [(0, .ref a0), (3, .int xv3), (4, .int xv4), (6, .int xv6), (7, .int xv7)], [.int (Int32.ofInt 0)], h)) rfl rfl rfl ?_
        refine xle_next (i := .istore 6) (x' := (135, [(0, .ref a0), (3, .int xv3), (4, .int xv4), (6, .int (Int32.ofInt 0)), (7, .int xv7)], [], h)) rfl rfl rfl ?_
        exact xle_jump rfl
noncomputable def D_M_revoke_153 (z : xzs) (xv4 : Int32) (h : xH) : Option xR :=
  some (.inl (some (.int xv4)), h)
set_option maxRecDepth 20000 in
theorem E_M_revoke_153 (z : xzs) (xv4 : Int32) (h : xH) : xle (D_M_revoke_153 z xv4 h) (B_M_revoke_153 z xv4 h) := by
  unfold D_M_revoke_153 B_M_revoke_153
  refine xle_next (i := .iload 4) (x' := (155, [(4, .int xv4)], [.int xv4], h)) rfl rfl rfl ?_
  exact xle_end (i := .ireturn) rfl rfl rfl
noncomputable def D_M_revoke_135 (z : xzs) (a0 : Nat) (xv3 : Int32) (xv4 : Int32) (xv6 : Int32) (xv7 : Int32) (h : xH) : Option xR :=
  B_M_revoke_102 z a0 xv3 xv4 xv6 (xv7 + Int32.ofInt 1) h
set_option maxRecDepth 20000 in
theorem E_M_revoke_135 (z : xzs) (a0 : Nat) (xv3 : Int32) (xv4 : Int32) (xv6 : Int32) (xv7 : Int32) (h : xH) : xle (D_M_revoke_135 z a0 xv3 xv4 xv6 xv7 h) (B_M_revoke_135 z a0 xv3 xv4 xv6 xv7 h) := by
  unfold D_M_revoke_135 B_M_revoke_135
  refine xle_next (i := .iinc 7 1) (x' := (138, [(0, .ref a0), (3, .int xv3), (4, .int xv4), (6, .int xv6), (7, .int (xv7 + Int32.ofInt 1))], [], h)) rfl rfl rfl ?_
  refine xle_next (i := .goto (-36)) (x' := (102, [(0, .ref a0), (3, .int xv3), (4, .int xv4), (6, .int xv6), (7, .int (xv7 + Int32.ofInt 1))], [], h)) rfl rfl rfl ?_
  exact xle_jump rfl
noncomputable def B_M_retype_28 (z : xzs) (a0 : Nat) (xv1 : Int32) (xv2 : Int32) (xv3 : Int32) (rs0 : Option Nat) (h : xH) : Option xR := xev (K_M_retype z) (28, [(0, .ref a0), (1, .int xv1), (2, .int xv2), (3, .int xv3)], [va_rf rs0], h)
noncomputable def B_M_retype_29 (z : xzs) (a0 : Nat) (xv1 : Int32) (xv2 : Int32) (xv3 : Int32) (xs0 : Int32) (rs1 : Option Nat) (h : xH) : Option xR := xev (K_M_retype z) (29, [(0, .ref a0), (1, .int xv1), (2, .int xv2), (3, .int xv3)], [.int xs0, va_rf rs1], h)
noncomputable def B_M_retype_60 (z : xzs)  (h : xH) : Option xR := xev (K_M_retype z) (60, [], [], h)
noncomputable def B_M_retype_82 (z : xzs) (a0 : Nat) (xv2 : Int32) (xv4 : Int32) (h : xH) : Option xR := xev (K_M_retype z) (82, [(0, .ref a0), (2, .int xv2), (4, .int xv4)], [], h)
noncomputable def B_M_retype_87 (z : xzs) (a0 : Nat) (xv2 : Int32) (xv4 : Int32) (xs0 : Int32) (h : xH) : Option xR := xev (K_M_retype z) (87, [(0, .ref a0), (2, .int xv2), (4, .int xv4)], [.int xs0], h)
noncomputable def B_M_retype_135 (z : xzs) (a0 : Nat) (xv2 : Int32) (xv4 : Int32) (xv5 : Int32) (rs0 : Option Nat) (h : xH) : Option xR := xev (K_M_retype z) (135, [(0, .ref a0), (2, .int xv2), (4, .int xv4), (5, .int xv5)], [va_rf rs0], h)
noncomputable def B_M_retype_136 (z : xzs) (a0 : Nat) (xv2 : Int32) (xv4 : Int32) (xv5 : Int32) (xs0 : Int32) (rs1 : Option Nat) (h : xH) : Option xR := xev (K_M_retype z) (136, [(0, .ref a0), (2, .int xv2), (4, .int xv4), (5, .int xv5)], [.int xs0, va_rf rs1], h)
noncomputable def B_M_retype_195 (z : xzs) (a0 : Nat) (xv4 : Int32) (xv6 : Int32) (xs0 : Int32) (xs1 : Int32) (rs2 : Option Nat) (h : xH) : Option xR := xev (K_M_retype z) (195, [(0, .ref a0), (4, .int xv4), (6, .int xv6)], [.int xs0, .int xs1, va_rf rs2], h)
noncomputable def D_M_retype_0 (z : xzs) (a0 : Nat) (p1 : Int32) (p2 : Int32) (p3 : Int32) (h : xH) : Option xR :=
  xclI (f_M_reaches z [.int p1] h) fun x2 h1 =>
  if x2 = 0 then
    B_M_retype_28 z a0 p1 p2 p3 (some a0) h1
  else
    xclI (f_M_within z [.int p2, .int (Int32.ofInt 0), .int (Int32.ofInt 3)] h1) fun x4 h3 =>
    if x4 = 0 then
      B_M_retype_28 z a0 p1 p2 p3 (some a0) h3
    else
      xclI (f_M_reaches z [.int p3] h3) fun x6 h5 =>
      if x6 = 0 then
        B_M_retype_28 z a0 p1 p2 p3 (some a0) h5
      else
        B_M_retype_29 z a0 p1 p2 p3 (Int32.ofInt 1) (some a0) h5
set_option maxRecDepth 20000 in
theorem E_M_retype (z : xzs) (a0 : Nat) (p1 : Int32) (p2 : Int32) (p3 : Int32) (h : xH) : xle (D_M_retype_0 z a0 p1 p2 p3 h) (xfun (K_M_retype z) 7 [.ref a0, .int p1, .int p2, .int p3] h) := by
  unfold D_M_retype_0
  refine xle_entry (Nat.le_of_ble_eq_true rfl) (xal_c (xca_a _) (xal_c (xca_i _) (xal_c (xca_i _) (xal_c (xca_i _) (rfl))))) ?_
  show xle _ (xev (K_M_retype z) (0, [(0, .ref a0), (1, .int p1), (2, .int p2), (3, .int p3)], [], h))
  refine xle_next (i := .aload_n 0) (x' := (1, [(0, .ref a0), (1, .int p1), (2, .int p2), (3, .int p3)], [.ref a0], h)) rfl rfl rfl ?_
  refine xle_next (i := .iload_n 1) (x' := (2, [(0, .ref a0), (1, .int p1), (2, .int p2), (3, .int p3)], [.int p1, .ref a0], h)) rfl rfl rfl ?_
  refine xle_clI (i := .invokestatic 173) (fo := f_M_reaches z [.int p1] h) (t := [.ref a0]) rfl rfl rfl (fun x2 h1 => ?_)
  refine xle_if (cd := .eq) (q := 28) rfl rfl rfl xc_eq (fun _ => ?_) (fun _ => ?_)
  · exact xle_jump rfl
  · refine xle_next (i := .iload_n 2) (x' := (9, [(0, .ref a0), (1, .int p1), (2, .int p2), (3, .int p3)], [.int p2, .ref a0], h1)) rfl rfl rfl ?_
    refine xle_next (i := .iconst 0) (x' := (10, [(0, .ref a0), (1, .int p1), (2, .int p2), (3, .int p3)], [.int (Int32.ofInt 0), .int p2, .ref a0], h1)) rfl rfl rfl ?_
    refine xle_next (i := .iconst 3) (x' := (11, [(0, .ref a0), (1, .int p1), (2, .int p2), (3, .int p3)], [.int (Int32.ofInt 3), .int (Int32.ofInt 0), .int p2, .ref a0], h1)) rfl rfl rfl ?_
    refine xle_clI (i := .invokestatic 169) (fo := f_M_within z [.int p2, .int (Int32.ofInt 0), .int (Int32.ofInt 3)] h1) (t := [.ref a0]) rfl rfl rfl (fun x4 h3 => ?_)
    refine xle_if (cd := .eq) (q := 28) rfl rfl rfl xc_eq (fun _ => ?_) (fun _ => ?_)
    · exact xle_jump rfl
    · refine xle_next (i := .iload_n 3) (x' := (18, [(0, .ref a0), (1, .int p1), (2, .int p2), (3, .int p3)], [.int p3, .ref a0], h3)) rfl rfl rfl ?_
      refine xle_clI (i := .invokestatic 173) (fo := f_M_reaches z [.int p3] h3) (t := [.ref a0]) rfl rfl rfl (fun x6 h5 => ?_)
      refine xle_if (cd := .eq) (q := 28) rfl rfl rfl xc_eq (fun _ => ?_) (fun _ => ?_)
      · exact xle_jump rfl
      · refine xle_next (i := .iconst 1) (x' := (25, [(0, .ref a0), (1, .int p1), (2, .int p2), (3, .int p3)], [.int (Int32.ofInt 1), .ref a0], h5)) rfl rfl rfl ?_
        refine xle_next (i := .goto 4) (x' := (29, [(0, .ref a0), (1, .int p1), (2, .int p2), (3, .int p3)], [.int (Int32.ofInt 1), .ref a0], h5)) rfl rfl rfl ?_
        exact xle_jump rfl
noncomputable def D_M_retype_28 (z : xzs) (a0 : Nat) (xv1 : Int32) (xv2 : Int32) (xv3 : Int32) (rs0 : Option Nat) (h : xH) : Option xR :=
  B_M_retype_29 z a0 xv1 xv2 xv3 (Int32.ofInt 0) rs0 h
set_option maxRecDepth 20000 in
theorem E_M_retype_28 (z : xzs) (a0 : Nat) (xv1 : Int32) (xv2 : Int32) (xv3 : Int32) (rs0 : Option Nat) (h : xH) : xle (D_M_retype_28 z a0 xv1 xv2 xv3 rs0 h) (B_M_retype_28 z a0 xv1 xv2 xv3 rs0 h) := by
  unfold D_M_retype_28 B_M_retype_28
  refine xle_next (i := .iconst 0) (x' := (29, [(0, .ref a0), (1, .int xv1), (2, .int xv2), (3, .int xv3)], [.int (Int32.ofInt 0), va_rf rs0], h)) rfl rfl rfl ?_
  exact xle_jump rfl
noncomputable def D_M_retype_29 (z : xzs) (a0 : Nat) (xv1 : Int32) (xv2 : Int32) (xv3 : Int32) (xs0 : Int32) (rs1 : Option Nat) (h : xH) : Option xR :=
  rs1.bind fun a7 =>
  (xisO h a7 6).bind fun _ => xclI (f_M_begins z [.ref a7, .int xs0] h) fun x9 h8 =>
  if x9 = 0 then
    B_M_retype_60 z h8
  else
    (xisO h8 a0 6).bind fun _ => xclI (f_M_has z [.ref a0, .int xv1] h8) fun x11 h10 =>
    if x11 = 0 then
      B_M_retype_60 z h10
    else
      (xisO h10 a0 6).bind fun _ => xclI (f_M_leads z [.ref a0, .int xv3] h10) fun x13 h12 =>
      if x13 = 0 then
        B_M_retype_60 z h12
      else
        (xisO h12 a0 6).bind fun _ => xclI (f_M_is z [.ref a0, .int (Int32.ofInt 0), .int (Int32.ofInt 2)] h12) fun x15 h14 =>
        if ¬ x15 = 0 then
          (rdR h14 a0 6 8).bind fun r16 =>
          (rdI h14 a0 6 39).bind fun x17 =>
          r16.bind fun a18 =>
          (rdA 0 h14 a18 x17).bind fun x19 =>
          if xv2 = 0 then
            B_M_retype_82 z a0 xv2 x19 h14
          else
            if ¬ xv2 = (Int32.ofInt 3) then
              B_M_retype_87 z a0 xv2 x19 (Int32.ofInt 1) h14
            else
              B_M_retype_82 z a0 xv2 x19 h14
        else
          B_M_retype_60 z h14
set_option maxRecDepth 20000 in
theorem E_M_retype_29 (z : xzs) (a0 : Nat) (xv1 : Int32) (xv2 : Int32) (xv3 : Int32) (xs0 : Int32) (rs1 : Option Nat) (h : xH) : xle (D_M_retype_29 z a0 xv1 xv2 xv3 xs0 rs1 h) (B_M_retype_29 z a0 xv1 xv2 xv3 xs0 rs1 h) := by
  unfold D_M_retype_29 B_M_retype_29
  refine xle_some (fun r_ => (29, [(0, .ref a0), (1, .int xv1), (2, .int xv2), (3, .int xv3)], [.int xs0, va_rf r_], h)) (fun a7 => ?_)
  refine xle_isO (i := .invokevirtual 177) (bq := a7) (ci := 6) (fo := (f_M_begins z [.ref a7, .int xs0] h).bind (xback 29 [(0, .ref a0), (1, .int xv1), (2, .int xv2), (3, .int xv3)] [])) rfl rfl rfl (fun hs => ?_)
  refine xle_clI (t := []) rfl rfl hs (fun x9 h8 => ?_)
  refine xle_if (cd := .eq) (q := 60) rfl rfl rfl xc_eq (fun _ => ?_) (fun _ => ?_)
  · exact xle_jump rfl
  · refine xle_next (i := .aload_n 0) (x' := (36, [(0, .ref a0), (1, .int xv1), (2, .int xv2), (3, .int xv3)], [.ref a0], h8)) rfl rfl rfl ?_
    refine xle_next (i := .iload_n 1) (x' := (37, [(0, .ref a0), (1, .int xv1), (2, .int xv2), (3, .int xv3)], [.int xv1, .ref a0], h8)) rfl rfl rfl ?_
    refine xle_isO (i := .invokevirtual 181) (bq := a0) (ci := 6) (fo := (f_M_has z [.ref a0, .int xv1] h8).bind (xback 37 [(0, .ref a0), (1, .int xv1), (2, .int xv2), (3, .int xv3)] [])) rfl rfl rfl (fun hs => ?_)
    refine xle_clI (t := []) rfl rfl hs (fun x11 h10 => ?_)
    refine xle_if (cd := .eq) (q := 60) rfl rfl rfl xc_eq (fun _ => ?_) (fun _ => ?_)
    · exact xle_jump rfl
    · refine xle_next (i := .aload_n 0) (x' := (44, [(0, .ref a0), (1, .int xv1), (2, .int xv2), (3, .int xv3)], [.ref a0], h10)) rfl rfl rfl ?_
      refine xle_next (i := .iload_n 3) (x' := (45, [(0, .ref a0), (1, .int xv1), (2, .int xv2), (3, .int xv3)], [.int xv3, .ref a0], h10)) rfl rfl rfl ?_
      refine xle_isO (i := .invokevirtual 184) (bq := a0) (ci := 6) (fo := (f_M_leads z [.ref a0, .int xv3] h10).bind (xback 45 [(0, .ref a0), (1, .int xv1), (2, .int xv2), (3, .int xv3)] [])) rfl rfl rfl (fun hs => ?_)
      refine xle_clI (t := []) rfl rfl hs (fun x13 h12 => ?_)
      refine xle_if (cd := .eq) (q := 60) rfl rfl rfl xc_eq (fun _ => ?_) (fun _ => ?_)
      · exact xle_jump rfl
      · refine xle_next (i := .aload_n 0) (x' := (52, [(0, .ref a0), (1, .int xv1), (2, .int xv2), (3, .int xv3)], [.ref a0], h12)) rfl rfl rfl ?_
        refine xle_next (i := .iconst 0) (x' := (53, [(0, .ref a0), (1, .int xv1), (2, .int xv2), (3, .int xv3)], [.int (Int32.ofInt 0), .ref a0], h12)) rfl rfl rfl ?_
        refine xle_next (i := .iconst 2) (x' := (54, [(0, .ref a0), (1, .int xv1), (2, .int xv2), (3, .int xv3)], [.int (Int32.ofInt 2), .int (Int32.ofInt 0), .ref a0], h12)) rfl rfl rfl ?_
        refine xle_isO (i := .invokevirtual 199) (bq := a0) (ci := 6) (fo := (f_M_is z [.ref a0, .int (Int32.ofInt 0), .int (Int32.ofInt 2)] h12).bind (xback 54 [(0, .ref a0), (1, .int xv1), (2, .int xv2), (3, .int xv3)] [])) rfl rfl rfl (fun hs => ?_)
        refine xle_clI (t := []) rfl rfl hs (fun x15 h14 => ?_)
        refine xle_if (cd := .ne) (q := 62) rfl rfl rfl xc_ne (fun _ => ?_) (fun _ => ?_)
        · refine xle_next (i := .aload_n 0) (x' := (63, [(0, .ref a0), (1, .int xv1), (2, .int xv2), (3, .int xv3)], [.ref a0], h14)) rfl rfl rfl ?_
          refine xle_getR (f := (6, 8, .array .int, 0)) rfl rfl rfl (fun r16 => ?_)
          refine xle_next (i := .aload_n 0) (x' := (67, [(0, .ref a0), (1, .int xv1), (2, .int xv2), (3, .int xv3)], [.ref a0, va_rf r16], h14)) rfl rfl rfl ?_
          refine xle_getI (f := (6, 39, .int, 1)) rfl rfl rfl (fun x17 => ?_)
          refine xle_some (fun r_ => (70, [(0, .ref a0), (1, .int xv1), (2, .int xv2), (3, .int xv3)], [.int x17, va_rf r_], h14)) (fun a18 => ?_)
          refine xle_iald rfl rfl (fun x19 => ?_)
          refine xle_next (i := .istore 4) (x' := (73, [(0, .ref a0), (1, .int xv1), (2, .int xv2), (3, .int xv3), (4, .int x19)], [], h14)) rfl rfl rfl ?_
          refine xle_next (i := .iload_n 2) (x' := (74, [(0, .ref a0), (1, .int xv1), (2, .int xv2), (3, .int xv3), (4, .int x19)], [.int xv2], h14)) rfl rfl rfl ?_
          refine xle_if (cd := .eq) (q := 82) rfl rfl rfl xc_eq (fun _ => ?_) (fun _ => ?_)
          · exact xle_jump rfl
          · refine xle_next (i := .iload_n 2) (x' := (78, [(0, .ref a0), (1, .int xv1), (2, .int xv2), (3, .int xv3), (4, .int x19)], [.int xv2], h14)) rfl rfl rfl ?_
            refine xle_next (i := .iconst 3) (x' := (79, [(0, .ref a0), (1, .int xv1), (2, .int xv2), (3, .int xv3), (4, .int x19)], [.int (Int32.ofInt 3), .int xv2], h14)) rfl rfl rfl ?_
            refine xle_icmp (cd := .ne) (q := 86) rfl rfl rfl xc_ne (fun _ => ?_) (fun _ => ?_)
            · refine xle_next (i := .iconst 1) (x' := (87, [(0, .ref a0), (1, .int xv1), (2, .int xv2), (3, .int xv3), (4, .int x19)], [.int (Int32.ofInt 1)], h14)) rfl rfl rfl ?_
              exact xle_jump rfl
            · exact xle_jump rfl
        · exact xle_jump rfl
noncomputable def D_M_retype_60 (z : xzs)  (h : xH) : Option xR :=
  some (.inl (some (.int (Int32.ofInt 0))), h)
set_option maxRecDepth 20000 in
theorem E_M_retype_60 (z : xzs)  (h : xH) : xle (D_M_retype_60 z  h) (B_M_retype_60 z  h) := by
  unfold D_M_retype_60 B_M_retype_60
  refine xle_next (i := .iconst 0) (x' := (61, [], [.int (Int32.ofInt 0)], h)) rfl rfl rfl ?_
  exact xle_end (i := .ireturn) rfl rfl rfl
noncomputable def D_M_retype_82 (z : xzs) (a0 : Nat) (xv2 : Int32) (xv4 : Int32) (h : xH) : Option xR :=
  B_M_retype_87 z a0 xv2 xv4 (Int32.ofInt 4) h
set_option maxRecDepth 20000 in
theorem E_M_retype_82 (z : xzs) (a0 : Nat) (xv2 : Int32) (xv4 : Int32) (h : xH) : xle (D_M_retype_82 z a0 xv2 xv4 h) (B_M_retype_82 z a0 xv2 xv4 h) := by
  unfold D_M_retype_82 B_M_retype_82
  refine xle_next (i := .iconst 4) (x' := (83, [(0, .ref a0), (2, .int xv2), (4, .int xv4)], [.int (Int32.ofInt 4)], h)) rfl rfl rfl ?_
  refine xle_next (i := .goto 4) (x' := (87, [(0, .ref a0), (2, .int xv2), (4, .int xv4)], [.int (Int32.ofInt 4)], h)) rfl rfl rfl ?_
  exact xle_jump rfl
noncomputable def D_M_retype_87 (z : xzs) (a0 : Nat) (xv2 : Int32) (xv4 : Int32) (xs0 : Int32) (h : xH) : Option xR :=
  (rdR h a0 6 14).bind fun r20 =>
  (rdI h a0 6 40).bind fun x21 =>
  r20.bind fun a22 =>
  (rdA 0 h a22 x21).bind fun x23 =>
  if ¬ x23 = 0 then
    B_M_retype_135 z a0 xv2 xv4 xs0 (some a0) h
  else
    (rdR h a0 6 3).bind fun r24 =>
    r24.bind fun a25 =>
    (rdA 0 h a25 xv4).bind fun x26 =>
    (rdR h a0 6 2).bind fun r27 =>
    r27.bind fun a28 =>
    (rdA 0 h a28 xv4).bind fun x29 =>
    if x29 < (x26 + xs0) then
      B_M_retype_135 z a0 xv2 xv4 xs0 (some a0) h
    else
      (rdI h a0 6 7).bind fun x30 =>
      if ((Int8.ofInt 50).toInt32) ≤ x30 then
        B_M_retype_135 z a0 xv2 xv4 xs0 (some a0) h
      else
        B_M_retype_136 z a0 xv2 xv4 xs0 (Int32.ofInt 1) (some a0) h
set_option maxRecDepth 20000 in
theorem E_M_retype_87 (z : xzs) (a0 : Nat) (xv2 : Int32) (xv4 : Int32) (xs0 : Int32) (h : xH) : xle (D_M_retype_87 z a0 xv2 xv4 xs0 h) (B_M_retype_87 z a0 xv2 xv4 xs0 h) := by
  unfold D_M_retype_87 B_M_retype_87
  refine xle_next (i := .istore 5) (x' := (89, [(0, .ref a0), (2, .int xv2), (4, .int xv4), (5, .int xs0)], [], h)) rfl rfl rfl ?_
  refine xle_next (i := .aload_n 0) (x' := (90, [(0, .ref a0), (2, .int xv2), (4, .int xv4), (5, .int xs0)], [.ref a0], h)) rfl rfl rfl ?_
  refine xle_next (i := .aload_n 0) (x' := (91, [(0, .ref a0), (2, .int xv2), (4, .int xv4), (5, .int xs0)], [.ref a0, .ref a0], h)) rfl rfl rfl ?_
  refine xle_getR (f := (6, 14, .array .int, 0)) rfl rfl rfl (fun r20 => ?_)
  refine xle_next (i := .aload_n 0) (x' := (95, [(0, .ref a0), (2, .int xv2), (4, .int xv4), (5, .int xs0)], [.ref a0, va_rf r20, .ref a0], h)) rfl rfl rfl ?_
  refine xle_getI (f := (6, 40, .int, 1)) rfl rfl rfl (fun x21 => ?_)
  refine xle_some (fun r_ => (98, [(0, .ref a0), (2, .int xv2), (4, .int xv4), (5, .int xs0)], [.int x21, va_rf r_, .ref a0], h)) (fun a22 => ?_)
  refine xle_iald rfl rfl (fun x23 => ?_)
  refine xle_if (cd := .ne) (q := 135) rfl rfl rfl xc_ne (fun _ => ?_) (fun _ => ?_)
  · exact xle_jump rfl
  · refine xle_next (i := .aload_n 0) (x' := (103, [(0, .ref a0), (2, .int xv2), (4, .int xv4), (5, .int xs0)], [.ref a0, .ref a0], h)) rfl rfl rfl ?_
    refine xle_getR (f := (6, 3, .array .int, 0)) rfl rfl rfl (fun r24 => ?_)
    refine xle_next (i := .iload 4) (x' := (108, [(0, .ref a0), (2, .int xv2), (4, .int xv4), (5, .int xs0)], [.int xv4, va_rf r24, .ref a0], h)) rfl rfl rfl ?_
    refine xle_some (fun r_ => (108, [(0, .ref a0), (2, .int xv2), (4, .int xv4), (5, .int xs0)], [.int xv4, va_rf r_, .ref a0], h)) (fun a25 => ?_)
    refine xle_iald rfl rfl (fun x26 => ?_)
    refine xle_next (i := .iload 5) (x' := (111, [(0, .ref a0), (2, .int xv2), (4, .int xv4), (5, .int xs0)], [.int xs0, .int x26, .ref a0], h)) rfl rfl rfl ?_
    refine xle_next (i := .iadd) (x' := (112, [(0, .ref a0), (2, .int xv2), (4, .int xv4), (5, .int xs0)], [.int (x26 + xs0), .ref a0], h)) rfl rfl rfl ?_
    refine xle_next (i := .aload_n 0) (x' := (113, [(0, .ref a0), (2, .int xv2), (4, .int xv4), (5, .int xs0)], [.ref a0, .int (x26 + xs0), .ref a0], h)) rfl rfl rfl ?_
    refine xle_getR (f := (6, 2, .array .int, 0)) rfl rfl rfl (fun r27 => ?_)
    refine xle_next (i := .iload 4) (x' := (118, [(0, .ref a0), (2, .int xv2), (4, .int xv4), (5, .int xs0)], [.int xv4, va_rf r27, .int (x26 + xs0), .ref a0], h)) rfl rfl rfl ?_
    refine xle_some (fun r_ => (118, [(0, .ref a0), (2, .int xv2), (4, .int xv4), (5, .int xs0)], [.int xv4, va_rf r_, .int (x26 + xs0), .ref a0], h)) (fun a28 => ?_)
    refine xle_iald rfl rfl (fun x29 => ?_)
    refine xle_icmp (cd := .gt) (q := 135) rfl rfl rfl xc_gt (fun _ => ?_) (fun _ => ?_)
    · exact xle_jump rfl
    · refine xle_next (i := .aload_n 0) (x' := (123, [(0, .ref a0), (2, .int xv2), (4, .int xv4), (5, .int xs0)], [.ref a0, .ref a0], h)) rfl rfl rfl ?_
      refine xle_getI (f := (6, 7, .int, 1)) rfl rfl rfl (fun x30 => ?_)
      refine xle_next (i := .bipush 50) (x' := (128, [(0, .ref a0), (2, .int xv2), (4, .int xv4), (5, .int xs0)], [.int ((Int8.ofInt 50).toInt32), .int x30, .ref a0], h)) rfl rfl rfl ?_
      refine xle_icmp (cd := .ge) (q := 135) rfl rfl rfl xc_ge (fun _ => ?_) (fun _ => ?_)
      · exact xle_jump rfl
      · refine xle_next (i := .iconst 1) (x' := (132, [(0, .ref a0), (2, .int xv2), (4, .int xv4), (5, .int xs0)], [.int (Int32.ofInt 1), .ref a0], h)) rfl rfl rfl ?_
        refine xle_next (i := .goto 4) (x' := (136, [(0, .ref a0), (2, .int xv2), (4, .int xv4), (5, .int xs0)], [.int (Int32.ofInt 1), .ref a0], h)) rfl rfl rfl ?_
        exact xle_jump rfl
noncomputable def D_M_retype_135 (z : xzs) (a0 : Nat) (xv2 : Int32) (xv4 : Int32) (xv5 : Int32) (rs0 : Option Nat) (h : xH) : Option xR :=
  B_M_retype_136 z a0 xv2 xv4 xv5 (Int32.ofInt 0) rs0 h
set_option maxRecDepth 20000 in
theorem E_M_retype_135 (z : xzs) (a0 : Nat) (xv2 : Int32) (xv4 : Int32) (xv5 : Int32) (rs0 : Option Nat) (h : xH) : xle (D_M_retype_135 z a0 xv2 xv4 xv5 rs0 h) (B_M_retype_135 z a0 xv2 xv4 xv5 rs0 h) := by
  unfold D_M_retype_135 B_M_retype_135
  refine xle_next (i := .iconst 0) (x' := (136, [(0, .ref a0), (2, .int xv2), (4, .int xv4), (5, .int xv5)], [.int (Int32.ofInt 0), va_rf rs0], h)) rfl rfl rfl ?_
  exact xle_jump rfl
noncomputable def D_M_retype_136 (z : xzs) (a0 : Nat) (xv2 : Int32) (xv4 : Int32) (xv5 : Int32) (xs0 : Int32) (rs1 : Option Nat) (h : xH) : Option xR :=
  rs1.bind fun a31 =>
  (xisO h a31 6).bind fun _ => xclI (f_M_so z [.ref a31, .int xs0] h) fun x33 h32 =>
  if ¬ x33 = 0 then
    (rdR h32 a0 6 3).bind fun r34 =>
    r34.bind fun a35 =>
    (rdA 0 h32 a35 xv4).bind fun x36 =>
    (wrI h32 a35 xv4 (x36 + xv5)).bind fun h37 =>
    (rdI h37 a0 6 7).bind fun x38 =>
    (rdI h37 a0 6 7).bind fun x39 =>
    (xwr h37 a0 6 7 (.int (x39 + (Int32.ofInt 1)))).bind fun h40 =>
    (rdR h40 a0 6 1).bind fun r41 =>
    r41.bind fun a42 =>
    (wrI h40 a42 x38 xv2).bind fun h43 =>
    (rdR h43 a0 6 2).bind fun r44 =>
    if ¬ xv2 = 0 then
      B_M_retype_195 z a0 xv4 x38 (Int32.ofInt 0) x38 r44 h43
    else
      B_M_retype_195 z a0 xv4 x38 (Int32.ofInt 4) x38 r44 h43
  else
    some (.inl (some (.int (Int32.ofInt 0))), h32)
set_option maxRecDepth 20000 in
theorem E_M_retype_136 (z : xzs) (a0 : Nat) (xv2 : Int32) (xv4 : Int32) (xv5 : Int32) (xs0 : Int32) (rs1 : Option Nat) (h : xH) : xle (D_M_retype_136 z a0 xv2 xv4 xv5 xs0 rs1 h) (B_M_retype_136 z a0 xv2 xv4 xv5 xs0 rs1 h) := by
  unfold D_M_retype_136 B_M_retype_136
  refine xle_some (fun r_ => (136, [(0, .ref a0), (2, .int xv2), (4, .int xv4), (5, .int xv5)], [.int xs0, va_rf r_], h)) (fun a31 => ?_)
  refine xle_isO (i := .invokevirtual 187) (bq := a31) (ci := 6) (fo := (f_M_so z [.ref a31, .int xs0] h).bind (xback 136 [(0, .ref a0), (2, .int xv2), (4, .int xv4), (5, .int xv5)] [])) rfl rfl rfl (fun hs => ?_)
  refine xle_clI (t := []) rfl rfl hs (fun x33 h32 => ?_)
  refine xle_if (cd := .ne) (q := 144) rfl rfl rfl xc_ne (fun _ => ?_) (fun _ => ?_)
  · refine xle_next (i := .aload_n 0) (x' := (145, [(0, .ref a0), (2, .int xv2), (4, .int xv4), (5, .int xv5)], [.ref a0], h32)) rfl rfl rfl ?_
    refine xle_getR (f := (6, 3, .array .int, 0)) rfl rfl rfl (fun r34 => ?_)
    refine xle_next (i := .iload 4) (x' := (150, [(0, .ref a0), (2, .int xv2), (4, .int xv4), (5, .int xv5)], [.int xv4, va_rf r34], h32)) rfl rfl rfl ?_
    refine xle_some (fun r_ => (150, [(0, .ref a0), (2, .int xv2), (4, .int xv4), (5, .int xv5)], [.int xv4, va_rf r_], h32)) (fun a35 => ?_)
    refine xle_next (i := .dup2) (x' := (151, [(0, .ref a0), (2, .int xv2), (4, .int xv4), (5, .int xv5)], [.int xv4, .ref a35, .int xv4, .ref a35], h32)) rfl rfl rfl ?_
    refine xle_iald rfl rfl (fun x36 => ?_)
    refine xle_next (i := .iload 5) (x' := (154, [(0, .ref a0), (2, .int xv2), (4, .int xv4), (5, .int xv5)], [.int xv5, .int x36, .int xv4, .ref a35], h32)) rfl rfl rfl ?_
    refine xle_next (i := .iadd) (x' := (155, [(0, .ref a0), (2, .int xv2), (4, .int xv4), (5, .int xv5)], [.int (x36 + xv5), .int xv4, .ref a35], h32)) rfl rfl rfl ?_
    refine xle_iast rfl rfl (fun h37 => ?_)
    refine xle_next (i := .aload_n 0) (x' := (157, [(0, .ref a0), (2, .int xv2), (4, .int xv4), (5, .int xv5)], [.ref a0], h37)) rfl rfl rfl ?_
    refine xle_getI (f := (6, 7, .int, 1)) rfl rfl rfl (fun x38 => ?_)
    refine xle_next (i := .istore 6) (x' := (162, [(0, .ref a0), (2, .int xv2), (4, .int xv4), (5, .int xv5), (6, .int x38)], [], h37)) rfl rfl rfl ?_
    refine xle_next (i := .aload_n 0) (x' := (163, [(0, .ref a0), (2, .int xv2), (4, .int xv4), (5, .int xv5), (6, .int x38)], [.ref a0], h37)) rfl rfl rfl ?_
    refine xle_next (i := .dup) (x' := (164, [(0, .ref a0), (2, .int xv2), (4, .int xv4), (5, .int xv5), (6, .int x38)], [.ref a0, .ref a0], h37)) rfl rfl rfl ?_
    refine xle_getI (f := (6, 7, .int, 1)) rfl rfl rfl (fun x39 => ?_)
    refine xle_next (i := .iconst 1) (x' := (168, [(0, .ref a0), (2, .int xv2), (4, .int xv4), (5, .int xv5), (6, .int x38)], [.int (Int32.ofInt 1), .int x39, .ref a0], h37)) rfl rfl rfl ?_
    refine xle_next (i := .iadd) (x' := (169, [(0, .ref a0), (2, .int xv2), (4, .int xv4), (5, .int xv5), (6, .int x38)], [.int (x39 + (Int32.ofInt 1)), .ref a0], h37)) rfl rfl rfl ?_
    refine xle_put (v := .int (x39 + (Int32.ofInt 1))) (f := (6, 7, .int, 1)) rfl rfl rfl ⟨by decide, rfl, rfl⟩ (fun h40 => ?_)
    refine xle_next (i := .aload_n 0) (x' := (173, [(0, .ref a0), (2, .int xv2), (4, .int xv4), (5, .int xv5), (6, .int x38)], [.ref a0], h40)) rfl rfl rfl ?_
    refine xle_getR (f := (6, 1, .array .int, 0)) rfl rfl rfl (fun r41 => ?_)
    refine xle_next (i := .iload 6) (x' := (178, [(0, .ref a0), (2, .int xv2), (4, .int xv4), (5, .int xv5), (6, .int x38)], [.int x38, va_rf r41], h40)) rfl rfl rfl ?_
    refine xle_next (i := .iload_n 2) (x' := (179, [(0, .ref a0), (2, .int xv2), (4, .int xv4), (5, .int xv5), (6, .int x38)], [.int xv2, .int x38, va_rf r41], h40)) rfl rfl rfl ?_
    refine xle_some (fun r_ => (179, [(0, .ref a0), (2, .int xv2), (4, .int xv4), (5, .int xv5), (6, .int x38)], [.int xv2, .int x38, va_rf r_], h40)) (fun a42 => ?_)
    refine xle_iast rfl rfl (fun h43 => ?_)
    refine xle_next (i := .aload_n 0) (x' := (181, [(0, .ref a0), (2, .int xv2), (4, .int xv4), (5, .int xv5), (6, .int x38)], [.ref a0], h43)) rfl rfl rfl ?_
    refine xle_getR (f := (6, 2, .array .int, 0)) rfl rfl rfl (fun r44 => ?_)
    refine xle_next (i := .iload 6) (x' := (186, [(0, .ref a0), (2, .int xv2), (4, .int xv4), (5, .int xv5), (6, .int x38)], [.int x38, va_rf r44], h43)) rfl rfl rfl ?_
    refine xle_next (i := .iload_n 2) (x' := (187, [(0, .ref a0), (2, .int xv2), (4, .int xv4), (5, .int xv5), (6, .int x38)], [.int xv2, .int x38, va_rf r44], h43)) rfl rfl rfl ?_
    refine xle_if (cd := .ne) (q := 194) rfl rfl rfl xc_ne (fun _ => ?_) (fun _ => ?_)
    · refine xle_next (i := .iconst 0) (x' := (195, [(0, .ref a0), (2, .int xv2), (4, .int xv4), (5, .int xv5), (6, .int x38)], [.int (Int32.ofInt 0), .int x38, va_rf r44], h43)) rfl rfl rfl ?_
      exact xle_jump rfl
    · refine xle_next (i := .iconst 4) (x' := (191, [(0, .ref a0), (2, .int xv2), (4, .int xv4), (5, .int xv5), (6, .int x38)], [.int (Int32.ofInt 4), .int x38, va_rf r44], h43)) rfl rfl rfl ?_
      refine xle_next (i := .goto 4) (x' := (195, [(0, .ref a0), (2, .int xv2), (4, .int xv4), (5, .int xv5), (6, .int x38)], [.int (Int32.ofInt 4), .int x38, va_rf r44], h43)) rfl rfl rfl ?_
      exact xle_jump rfl
  · refine xle_next (i := .iconst 0) (x' := (143, [(0, .ref a0), (2, .int xv2), (4, .int xv4), (5, .int xv5)], [.int (Int32.ofInt 0)], h32)) rfl rfl rfl ?_
    exact xle_end (i := .ireturn) rfl rfl rfl
noncomputable def D_M_retype_195 (z : xzs) (a0 : Nat) (xv4 : Int32) (xv6 : Int32) (xs0 : Int32) (xs1 : Int32) (rs2 : Option Nat) (h : xH) : Option xR :=
  rs2.bind fun a45 =>
  (wrI h a45 xs1 xs0).bind fun h46 =>
  (rdR h46 a0 6 5).bind fun r47 =>
  r47.bind fun a48 =>
  (wrI h46 a48 xv6 xv4).bind fun h49 =>
  (rdR h49 a0 6 6).bind fun r50 =>
  r50.bind fun a51 =>
  (wrZ h49 a51 xv6 (Int32.ofInt 1)).bind fun h52 =>
  (rdI h52 a0 6 40).bind fun x53 =>
  (rdI h52 a0 6 39).bind fun x54 =>
  (xisO h52 a0 6).bind fun _ => xclI (f_M_put z [.ref a0, .int x53, .int xv6, .int ((Int8.ofInt 7).toInt32), .int (Int32.ofInt 0), .int x54] h52) fun x56 h55 =>
  some (.inl (some (.int ((xv6 - ((Int8.ofInt 10).toInt32)) + (Int32.ofInt 1)))), h55)
set_option maxRecDepth 20000 in
theorem E_M_retype_195 (z : xzs) (a0 : Nat) (xv4 : Int32) (xv6 : Int32) (xs0 : Int32) (xs1 : Int32) (rs2 : Option Nat) (h : xH) : xle (D_M_retype_195 z a0 xv4 xv6 xs0 xs1 rs2 h) (B_M_retype_195 z a0 xv4 xv6 xs0 xs1 rs2 h) := by
  unfold D_M_retype_195 B_M_retype_195
  refine xle_some (fun r_ => (195, [(0, .ref a0), (4, .int xv4), (6, .int xv6)], [.int xs0, .int xs1, va_rf r_], h)) (fun a45 => ?_)
  refine xle_iast rfl rfl (fun h46 => ?_)
  refine xle_next (i := .aload_n 0) (x' := (197, [(0, .ref a0), (4, .int xv4), (6, .int xv6)], [.ref a0], h46)) rfl rfl rfl ?_
  refine xle_getR (f := (6, 5, .array .int, 0)) rfl rfl rfl (fun r47 => ?_)
  refine xle_next (i := .iload 6) (x' := (202, [(0, .ref a0), (4, .int xv4), (6, .int xv6)], [.int xv6, va_rf r47], h46)) rfl rfl rfl ?_
  refine xle_next (i := .iload 4) (x' := (204, [(0, .ref a0), (4, .int xv4), (6, .int xv6)], [.int xv4, .int xv6, va_rf r47], h46)) rfl rfl rfl ?_
  refine xle_some (fun r_ => (204, [(0, .ref a0), (4, .int xv4), (6, .int xv6)], [.int xv4, .int xv6, va_rf r_], h46)) (fun a48 => ?_)
  refine xle_iast rfl rfl (fun h49 => ?_)
  refine xle_next (i := .aload_n 0) (x' := (206, [(0, .ref a0), (4, .int xv4), (6, .int xv6)], [.ref a0], h49)) rfl rfl rfl ?_
  refine xle_getR (f := (6, 6, .array .boolean, 0)) rfl rfl rfl (fun r50 => ?_)
  refine xle_next (i := .iload 6) (x' := (211, [(0, .ref a0), (4, .int xv4), (6, .int xv6)], [.int xv6, va_rf r50], h49)) rfl rfl rfl ?_
  refine xle_next (i := .iconst 1) (x' := (212, [(0, .ref a0), (4, .int xv4), (6, .int xv6)], [.int (Int32.ofInt 1), .int xv6, va_rf r50], h49)) rfl rfl rfl ?_
  refine xle_some (fun r_ => (212, [(0, .ref a0), (4, .int xv4), (6, .int xv6)], [.int (Int32.ofInt 1), .int xv6, va_rf r_], h49)) (fun a51 => ?_)
  refine xle_bast rfl rfl (fun h52 => ?_)
  refine xle_next (i := .aload_n 0) (x' := (214, [(0, .ref a0), (4, .int xv4), (6, .int xv6)], [.ref a0], h52)) rfl rfl rfl ?_
  refine xle_next (i := .aload_n 0) (x' := (215, [(0, .ref a0), (4, .int xv4), (6, .int xv6)], [.ref a0, .ref a0], h52)) rfl rfl rfl ?_
  refine xle_getI (f := (6, 40, .int, 1)) rfl rfl rfl (fun x53 => ?_)
  refine xle_next (i := .iload 6) (x' := (220, [(0, .ref a0), (4, .int xv4), (6, .int xv6)], [.int xv6, .int x53, .ref a0], h52)) rfl rfl rfl ?_
  refine xle_next (i := .bipush 7) (x' := (222, [(0, .ref a0), (4, .int xv4), (6, .int xv6)], [.int ((Int8.ofInt 7).toInt32), .int xv6, .int x53, .ref a0], h52)) rfl rfl rfl ?_
  refine xle_next (i := .iconst 0) (x' := (223, [(0, .ref a0), (4, .int xv4), (6, .int xv6)], [.int (Int32.ofInt 0), .int ((Int8.ofInt 7).toInt32), .int xv6, .int x53, .ref a0], h52)) rfl rfl rfl ?_
  refine xle_next (i := .aload_n 0) (x' := (224, [(0, .ref a0), (4, .int xv4), (6, .int xv6)], [.ref a0, .int (Int32.ofInt 0), .int ((Int8.ofInt 7).toInt32), .int xv6, .int x53, .ref a0], h52)) rfl rfl rfl ?_
  refine xle_getI (f := (6, 39, .int, 1)) rfl rfl rfl (fun x54 => ?_)
  refine xle_isO (i := .invokevirtual 114) (bq := a0) (ci := 6) (fo := (f_M_put z [.ref a0, .int x53, .int xv6, .int ((Int8.ofInt 7).toInt32), .int (Int32.ofInt 0), .int x54] h52).bind (xback 227 [(0, .ref a0), (4, .int xv4), (6, .int xv6)] [])) rfl rfl rfl (fun hs => ?_)
  refine xle_clI (t := []) rfl rfl hs (fun x56 h55 => ?_)
  refine xle_next (i := .pop) (x' := (231, [(0, .ref a0), (4, .int xv4), (6, .int xv6)], [], h55)) rfl rfl rfl ?_
  refine xle_next (i := .iload 6) (x' := (233, [(0, .ref a0), (4, .int xv4), (6, .int xv6)], [.int xv6], h55)) rfl rfl rfl ?_
  refine xle_next (i := .bipush 10) (x' := (235, [(0, .ref a0), (4, .int xv4), (6, .int xv6)], [.int ((Int8.ofInt 10).toInt32), .int xv6], h55)) rfl rfl rfl ?_
  refine xle_next (i := .isub) (x' := (236, [(0, .ref a0), (4, .int xv4), (6, .int xv6)], [.int (xv6 - ((Int8.ofInt 10).toInt32))], h55)) rfl rfl rfl ?_
  refine xle_next (i := .iconst 1) (x' := (237, [(0, .ref a0), (4, .int xv4), (6, .int xv6)], [.int (Int32.ofInt 1), .int (xv6 - ((Int8.ofInt 10).toInt32))], h55)) rfl rfl rfl ?_
  refine xle_next (i := .iadd) (x' := (238, [(0, .ref a0), (4, .int xv4), (6, .int xv6)], [.int ((xv6 - ((Int8.ofInt 10).toInt32)) + (Int32.ofInt 1))], h55)) rfl rfl rfl ?_
  exact xle_end (i := .ireturn) rfl rfl rfl
noncomputable def B_M_deliver_19 (z : xzs) (a0 : Nat) (xv1 : Int32) (xv2 : Int32) (xv3 : Int32) (xv4 : Int32) (xs0 : Int32) (h : xH) : Option xR := xev (K_M_deliver z) (19, [(0, .ref a0), (1, .int xv1), (2, .int xv2), (3, .int xv3), (4, .int xv4)], [.int xs0], h)
noncomputable def B_M_deliver_68 (z : xzs) (a0 : Nat) (xv1 : Int32) (xv2 : Int32) (xv3 : Int32) (xv4 : Int32) (xv5 : Int32) (h : xH) : Option xR := xev (K_M_deliver z) (68, [(0, .ref a0), (1, .int xv1), (2, .int xv2), (3, .int xv3), (4, .int xv4), (5, .int xv5)], [], h)
noncomputable def B_M_deliver_69 (z : xzs) (a0 : Nat) (xv1 : Int32) (xv2 : Int32) (xv3 : Int32) (xv4 : Int32) (xv5 : Int32) (xs0 : Int32) (h : xH) : Option xR := xev (K_M_deliver z) (69, [(0, .ref a0), (1, .int xv1), (2, .int xv2), (3, .int xv3), (4, .int xv4), (5, .int xv5)], [.int xs0], h)
noncomputable def B_M_deliver_106 (z : xzs) (a0 : Nat) (xv1 : Int32) (xv2 : Int32) (xv3 : Int32) (xv6 : Int32) (h : xH) : Option xR := xev (K_M_deliver z) (106, [(0, .ref a0), (1, .int xv1), (2, .int xv2), (3, .int xv3), (6, .int xv6)], [], h)
noncomputable def B_M_deliver_125 (z : xzs) (xs0 : Int32) (xs1 : Int32) (xs2 : Int32) (xs3 : Int32) (rs4 : Option Nat) (h : xH) : Option xR := xev (K_M_deliver z) (125, [], [.int xs0, .int xs1, .int xs2, .int xs3, va_rf rs4], h)
noncomputable def D_M_deliver_0 (z : xzs) (a0 : Nat) (p1 : Int32) (p2 : Int32) (p3 : Int32) (p4 : Int32) (h : xH) : Option xR :=
  (rdR h a0 6 27).bind fun r1 =>
  r1.bind fun a2 =>
  (rdA 0 h a2 p1).bind fun x3 =>
  if 0 ≤ x3 then
    (rdR h a0 6 41).bind fun r4 =>
    r4.bind fun a5 =>
    (rdA 0 h a5 p1).bind fun x6 =>
    B_M_deliver_19 z a0 p1 p2 p3 p4 x6 h
  else
    B_M_deliver_19 z a0 p1 p2 p3 p4 (Int32.ofInt (-1)) h
set_option maxRecDepth 20000 in
theorem E_M_deliver (z : xzs) (a0 : Nat) (p1 : Int32) (p2 : Int32) (p3 : Int32) (p4 : Int32) (h : xH) : xle (D_M_deliver_0 z a0 p1 p2 p3 p4 h) (xfun (K_M_deliver z) 7 [.ref a0, .int p1, .int p2, .int p3, .int p4] h) := by
  unfold D_M_deliver_0
  refine xle_entry (Nat.le_of_ble_eq_true rfl) (xal_c (xca_a _) (xal_c (xca_i _) (xal_c (xca_i _) (xal_c (xca_i _) (xal_c (xca_i _) (rfl)))))) ?_
  show xle _ (xev (K_M_deliver z) (0, [(0, .ref a0), (1, .int p1), (2, .int p2), (3, .int p3), (4, .int p4)], [], h))
  refine xle_next (i := .aload_n 0) (x' := (1, [(0, .ref a0), (1, .int p1), (2, .int p2), (3, .int p3), (4, .int p4)], [.ref a0], h)) rfl rfl rfl ?_
  refine xle_getR (f := (6, 27, .array .int, 0)) rfl rfl rfl (fun r1 => ?_)
  refine xle_next (i := .iload_n 1) (x' := (5, [(0, .ref a0), (1, .int p1), (2, .int p2), (3, .int p3), (4, .int p4)], [.int p1, va_rf r1], h)) rfl rfl rfl ?_
  refine xle_some (fun r_ => (5, [(0, .ref a0), (1, .int p1), (2, .int p2), (3, .int p3), (4, .int p4)], [.int p1, va_rf r_], h)) (fun a2 => ?_)
  refine xle_iald rfl rfl (fun x3 => ?_)
  refine xle_if (cd := .ge) (q := 13) rfl rfl rfl xc_ge (fun _ => ?_) (fun _ => ?_)
  · refine xle_next (i := .aload_n 0) (x' := (14, [(0, .ref a0), (1, .int p1), (2, .int p2), (3, .int p3), (4, .int p4)], [.ref a0], h)) rfl rfl rfl ?_
    refine xle_getR (f := (6, 41, .array .int, 0)) rfl rfl rfl (fun r4 => ?_)
    refine xle_next (i := .iload_n 1) (x' := (18, [(0, .ref a0), (1, .int p1), (2, .int p2), (3, .int p3), (4, .int p4)], [.int p1, va_rf r4], h)) rfl rfl rfl ?_
    refine xle_some (fun r_ => (18, [(0, .ref a0), (1, .int p1), (2, .int p2), (3, .int p3), (4, .int p4)], [.int p1, va_rf r_], h)) (fun a5 => ?_)
    refine xle_iald rfl rfl (fun x6 => ?_)
    exact xle_jump rfl
  · refine xle_next (i := .iconst (-1)) (x' := (10, [(0, .ref a0), (1, .int p1), (2, .int p2), (3, .int p3), (4, .int p4)], [.int (Int32.ofInt (-1))], h)) rfl rfl rfl ?_
    refine xle_next (i := .goto 9) (x' := (19, [(0, .ref a0), (1, .int p1), (2, .int p2), (3, .int p3), (4, .int p4)], [.int (Int32.ofInt (-1))], h)) rfl rfl rfl ?_
    exact xle_jump rfl
noncomputable def D_M_deliver_19 (z : xzs) (a0 : Nat) (xv1 : Int32) (xv2 : Int32) (xv3 : Int32) (xv4 : Int32) (xs0 : Int32) (h : xH) : Option xR :=
  if xv4 ≤ 0 then
    B_M_deliver_68 z a0 xv1 xv2 xv3 xv4 xs0 h
  else
    (rdR h a0 6 12).bind fun r7 =>
    r7.bind fun a8 =>
    (rdA 1 h a8 xv4).bind fun x9 =>
    if x9 = 0 then
      B_M_deliver_68 z a0 xv1 xv2 xv3 xv4 xs0 h
    else
      if xs0 < 0 then
        B_M_deliver_68 z a0 xv1 xv2 xv3 xv4 xs0 h
      else
        (rdR h a0 6 6).bind fun r10 =>
        r10.bind fun a11 =>
        (rdA 1 h a11 (xs0 / ((Int8.ofInt 8).toInt32))).bind fun x12 =>
        if x12 = 0 then
          B_M_deliver_68 z a0 xv1 xv2 xv3 xv4 xs0 h
        else
          (rdR h a0 6 14).bind fun r13 =>
          r13.bind fun a14 =>
          (rdA 0 h a14 xs0).bind fun x15 =>
          if ¬ x15 = 0 then
            B_M_deliver_68 z a0 xv1 xv2 xv3 xv4 xs0 h
          else
            B_M_deliver_69 z a0 xv1 xv2 xv3 xv4 xs0 (Int32.ofInt 1) h
set_option maxRecDepth 20000 in
theorem E_M_deliver_19 (z : xzs) (a0 : Nat) (xv1 : Int32) (xv2 : Int32) (xv3 : Int32) (xv4 : Int32) (xs0 : Int32) (h : xH) : xle (D_M_deliver_19 z a0 xv1 xv2 xv3 xv4 xs0 h) (B_M_deliver_19 z a0 xv1 xv2 xv3 xv4 xs0 h) := by
  unfold D_M_deliver_19 B_M_deliver_19
  refine xle_next (i := .istore 5) (x' := (21, [(0, .ref a0), (1, .int xv1), (2, .int xv2), (3, .int xv3), (4, .int xv4), (5, .int xs0)], [], h)) rfl rfl rfl ?_
  refine xle_next (i := .iload 4) (x' := (23, [(0, .ref a0), (1, .int xv1), (2, .int xv2), (3, .int xv3), (4, .int xv4), (5, .int xs0)], [.int xv4], h)) rfl rfl rfl ?_
  refine xle_if (cd := .le) (q := 68) rfl rfl rfl xc_le (fun _ => ?_) (fun _ => ?_)
  · exact xle_jump rfl
  · refine xle_next (i := .aload_n 0) (x' := (27, [(0, .ref a0), (1, .int xv1), (2, .int xv2), (3, .int xv3), (4, .int xv4), (5, .int xs0)], [.ref a0], h)) rfl rfl rfl ?_
    refine xle_getR (f := (6, 12, .array .boolean, 0)) rfl rfl rfl (fun r7 => ?_)
    refine xle_next (i := .iload 4) (x' := (32, [(0, .ref a0), (1, .int xv1), (2, .int xv2), (3, .int xv3), (4, .int xv4), (5, .int xs0)], [.int xv4, va_rf r7], h)) rfl rfl rfl ?_
    refine xle_some (fun r_ => (32, [(0, .ref a0), (1, .int xv1), (2, .int xv2), (3, .int xv3), (4, .int xv4), (5, .int xs0)], [.int xv4, va_rf r_], h)) (fun a8 => ?_)
    refine xle_bald rfl rfl (fun x9 => ?_)
    refine xle_if (cd := .eq) (q := 68) rfl rfl rfl xc_eq (fun _ => ?_) (fun _ => ?_)
    · exact xle_jump rfl
    · refine xle_next (i := .iload 5) (x' := (38, [(0, .ref a0), (1, .int xv1), (2, .int xv2), (3, .int xv3), (4, .int xv4), (5, .int xs0)], [.int xs0], h)) rfl rfl rfl ?_
      refine xle_if (cd := .lt) (q := 68) rfl rfl rfl xc_lt (fun _ => ?_) (fun _ => ?_)
      · exact xle_jump rfl
      · refine xle_next (i := .aload_n 0) (x' := (42, [(0, .ref a0), (1, .int xv1), (2, .int xv2), (3, .int xv3), (4, .int xv4), (5, .int xs0)], [.ref a0], h)) rfl rfl rfl ?_
        refine xle_getR (f := (6, 6, .array .boolean, 0)) rfl rfl rfl (fun r10 => ?_)
        refine xle_next (i := .iload 5) (x' := (47, [(0, .ref a0), (1, .int xv1), (2, .int xv2), (3, .int xv3), (4, .int xv4), (5, .int xs0)], [.int xs0, va_rf r10], h)) rfl rfl rfl ?_
        refine xle_next (i := .bipush 8) (x' := (49, [(0, .ref a0), (1, .int xv1), (2, .int xv2), (3, .int xv3), (4, .int xv4), (5, .int xs0)], [.int ((Int8.ofInt 8).toInt32), .int xs0, va_rf r10], h)) rfl rfl rfl ?_
        refine xle_next (i := .idiv) (x' := (50, [(0, .ref a0), (1, .int xv1), (2, .int xv2), (3, .int xv3), (4, .int xv4), (5, .int xs0)], [.int (xs0 / ((Int8.ofInt 8).toInt32)), va_rf r10], h)) rfl rfl rfl ?_
        refine xle_some (fun r_ => (50, [(0, .ref a0), (1, .int xv1), (2, .int xv2), (3, .int xv3), (4, .int xv4), (5, .int xs0)], [.int (xs0 / ((Int8.ofInt 8).toInt32)), va_rf r_], h)) (fun a11 => ?_)
        refine xle_bald rfl rfl (fun x12 => ?_)
        refine xle_if (cd := .eq) (q := 68) rfl rfl rfl xc_eq (fun _ => ?_) (fun _ => ?_)
        · exact xle_jump rfl
        · refine xle_next (i := .aload_n 0) (x' := (55, [(0, .ref a0), (1, .int xv1), (2, .int xv2), (3, .int xv3), (4, .int xv4), (5, .int xs0)], [.ref a0], h)) rfl rfl rfl ?_
          refine xle_getR (f := (6, 14, .array .int, 0)) rfl rfl rfl (fun r13 => ?_)
          refine xle_next (i := .iload 5) (x' := (60, [(0, .ref a0), (1, .int xv1), (2, .int xv2), (3, .int xv3), (4, .int xv4), (5, .int xs0)], [.int xs0, va_rf r13], h)) rfl rfl rfl ?_
          refine xle_some (fun r_ => (60, [(0, .ref a0), (1, .int xv1), (2, .int xv2), (3, .int xv3), (4, .int xv4), (5, .int xs0)], [.int xs0, va_rf r_], h)) (fun a14 => ?_)
          refine xle_iald rfl rfl (fun x15 => ?_)
          refine xle_if (cd := .ne) (q := 68) rfl rfl rfl xc_ne (fun _ => ?_) (fun _ => ?_)
          · exact xle_jump rfl
          · refine xle_next (i := .iconst 1) (x' := (65, [(0, .ref a0), (1, .int xv1), (2, .int xv2), (3, .int xv3), (4, .int xv4), (5, .int xs0)], [.int (Int32.ofInt 1)], h)) rfl rfl rfl ?_
            refine xle_next (i := .goto 4) (x' := (69, [(0, .ref a0), (1, .int xv1), (2, .int xv2), (3, .int xv3), (4, .int xv4), (5, .int xs0)], [.int (Int32.ofInt 1)], h)) rfl rfl rfl ?_
            exact xle_jump rfl
noncomputable def D_M_deliver_68 (z : xzs) (a0 : Nat) (xv1 : Int32) (xv2 : Int32) (xv3 : Int32) (xv4 : Int32) (xv5 : Int32) (h : xH) : Option xR :=
  B_M_deliver_69 z a0 xv1 xv2 xv3 xv4 xv5 (Int32.ofInt 0) h
set_option maxRecDepth 20000 in
theorem E_M_deliver_68 (z : xzs) (a0 : Nat) (xv1 : Int32) (xv2 : Int32) (xv3 : Int32) (xv4 : Int32) (xv5 : Int32) (h : xH) : xle (D_M_deliver_68 z a0 xv1 xv2 xv3 xv4 xv5 h) (B_M_deliver_68 z a0 xv1 xv2 xv3 xv4 xv5 h) := by
  unfold D_M_deliver_68 B_M_deliver_68
  refine xle_next (i := .iconst 0) (x' := (69, [(0, .ref a0), (1, .int xv1), (2, .int xv2), (3, .int xv3), (4, .int xv4), (5, .int xv5)], [.int (Int32.ofInt 0)], h)) rfl rfl rfl ?_
  exact xle_jump rfl
noncomputable def D_M_deliver_69 (z : xzs) (a0 : Nat) (xv1 : Int32) (xv2 : Int32) (xv3 : Int32) (xv4 : Int32) (xv5 : Int32) (xs0 : Int32) (h : xH) : Option xR :=
  if xs0 = 0 then
    B_M_deliver_106 z a0 xv1 xv2 xv3 xs0 h
  else
    (rdR h a0 6 8).bind fun r16 =>
    r16.bind fun a17 =>
    (rdA 0 h a17 xv4).bind fun x18 =>
    (rdR h a0 6 9).bind fun r19 =>
    r19.bind fun a20 =>
    (rdA 0 h a20 xv4).bind fun x21 =>
    (rdR h a0 6 10).bind fun r22 =>
    r22.bind fun a23 =>
    (rdA 0 h a23 xv4).bind fun x24 =>
    (xisO h a0 6).bind fun _ => xclI (f_M_put z [.ref a0, .int xv5, .int x18, .int x21, .int x24, .int xv4] h) fun x26 h25 =>
    B_M_deliver_106 z a0 xv1 xv2 xv3 xs0 h25
set_option maxRecDepth 20000 in
theorem E_M_deliver_69 (z : xzs) (a0 : Nat) (xv1 : Int32) (xv2 : Int32) (xv3 : Int32) (xv4 : Int32) (xv5 : Int32) (xs0 : Int32) (h : xH) : xle (D_M_deliver_69 z a0 xv1 xv2 xv3 xv4 xv5 xs0 h) (B_M_deliver_69 z a0 xv1 xv2 xv3 xv4 xv5 xs0 h) := by
  unfold D_M_deliver_69 B_M_deliver_69
  refine xle_next (i := .istore 6) (x' := (71, [(0, .ref a0), (1, .int xv1), (2, .int xv2), (3, .int xv3), (4, .int xv4), (5, .int xv5), (6, .int xs0)], [], h)) rfl rfl rfl ?_
  refine xle_next (i := .iload 6) (x' := (73, [(0, .ref a0), (1, .int xv1), (2, .int xv2), (3, .int xv3), (4, .int xv4), (5, .int xv5), (6, .int xs0)], [.int xs0], h)) rfl rfl rfl ?_
  refine xle_if (cd := .eq) (q := 106) rfl rfl rfl xc_eq (fun _ => ?_) (fun _ => ?_)
  · exact xle_jump rfl
  · refine xle_next (i := .aload_n 0) (x' := (77, [(0, .ref a0), (1, .int xv1), (2, .int xv2), (3, .int xv3), (4, .int xv4), (5, .int xv5), (6, .int xs0)], [.ref a0], h)) rfl rfl rfl ?_
    refine xle_next (i := .iload 5) (x' := (79, [(0, .ref a0), (1, .int xv1), (2, .int xv2), (3, .int xv3), (4, .int xv4), (5, .int xv5), (6, .int xs0)], [.int xv5, .ref a0], h)) rfl rfl rfl ?_
    refine xle_next (i := .aload_n 0) (x' := (80, [(0, .ref a0), (1, .int xv1), (2, .int xv2), (3, .int xv3), (4, .int xv4), (5, .int xv5), (6, .int xs0)], [.ref a0, .int xv5, .ref a0], h)) rfl rfl rfl ?_
    refine xle_getR (f := (6, 8, .array .int, 0)) rfl rfl rfl (fun r16 => ?_)
    refine xle_next (i := .iload 4) (x' := (85, [(0, .ref a0), (1, .int xv1), (2, .int xv2), (3, .int xv3), (4, .int xv4), (5, .int xv5), (6, .int xs0)], [.int xv4, va_rf r16, .int xv5, .ref a0], h)) rfl rfl rfl ?_
    refine xle_some (fun r_ => (85, [(0, .ref a0), (1, .int xv1), (2, .int xv2), (3, .int xv3), (4, .int xv4), (5, .int xv5), (6, .int xs0)], [.int xv4, va_rf r_, .int xv5, .ref a0], h)) (fun a17 => ?_)
    refine xle_iald rfl rfl (fun x18 => ?_)
    refine xle_next (i := .aload_n 0) (x' := (87, [(0, .ref a0), (1, .int xv1), (2, .int xv2), (3, .int xv3), (4, .int xv4), (5, .int xv5), (6, .int xs0)], [.ref a0, .int x18, .int xv5, .ref a0], h)) rfl rfl rfl ?_
    refine xle_getR (f := (6, 9, .array .int, 0)) rfl rfl rfl (fun r19 => ?_)
    refine xle_next (i := .iload 4) (x' := (92, [(0, .ref a0), (1, .int xv1), (2, .int xv2), (3, .int xv3), (4, .int xv4), (5, .int xv5), (6, .int xs0)], [.int xv4, va_rf r19, .int x18, .int xv5, .ref a0], h)) rfl rfl rfl ?_
    refine xle_some (fun r_ => (92, [(0, .ref a0), (1, .int xv1), (2, .int xv2), (3, .int xv3), (4, .int xv4), (5, .int xv5), (6, .int xs0)], [.int xv4, va_rf r_, .int x18, .int xv5, .ref a0], h)) (fun a20 => ?_)
    refine xle_iald rfl rfl (fun x21 => ?_)
    refine xle_next (i := .aload_n 0) (x' := (94, [(0, .ref a0), (1, .int xv1), (2, .int xv2), (3, .int xv3), (4, .int xv4), (5, .int xv5), (6, .int xs0)], [.ref a0, .int x21, .int x18, .int xv5, .ref a0], h)) rfl rfl rfl ?_
    refine xle_getR (f := (6, 10, .array .int, 0)) rfl rfl rfl (fun r22 => ?_)
    refine xle_next (i := .iload 4) (x' := (99, [(0, .ref a0), (1, .int xv1), (2, .int xv2), (3, .int xv3), (4, .int xv4), (5, .int xv5), (6, .int xs0)], [.int xv4, va_rf r22, .int x21, .int x18, .int xv5, .ref a0], h)) rfl rfl rfl ?_
    refine xle_some (fun r_ => (99, [(0, .ref a0), (1, .int xv1), (2, .int xv2), (3, .int xv3), (4, .int xv4), (5, .int xv5), (6, .int xs0)], [.int xv4, va_rf r_, .int x21, .int x18, .int xv5, .ref a0], h)) (fun a23 => ?_)
    refine xle_iald rfl rfl (fun x24 => ?_)
    refine xle_next (i := .iload 4) (x' := (102, [(0, .ref a0), (1, .int xv1), (2, .int xv2), (3, .int xv3), (4, .int xv4), (5, .int xv5), (6, .int xs0)], [.int xv4, .int x24, .int x21, .int x18, .int xv5, .ref a0], h)) rfl rfl rfl ?_
    refine xle_isO (i := .invokevirtual 114) (bq := a0) (ci := 6) (fo := (f_M_put z [.ref a0, .int xv5, .int x18, .int x21, .int x24, .int xv4] h).bind (xback 102 [(0, .ref a0), (1, .int xv1), (2, .int xv2), (3, .int xv3), (4, .int xv4), (5, .int xv5), (6, .int xs0)] [])) rfl rfl rfl (fun hs => ?_)
    refine xle_clI (t := []) rfl rfl hs (fun x26 h25 => ?_)
    refine xle_next (i := .pop) (x' := (106, [(0, .ref a0), (1, .int xv1), (2, .int xv2), (3, .int xv3), (4, .int xv4), (5, .int xv5), (6, .int xs0)], [], h25)) rfl rfl rfl ?_
    exact xle_jump rfl
noncomputable def D_M_deliver_106 (z : xzs) (a0 : Nat) (xv1 : Int32) (xv2 : Int32) (xv3 : Int32) (xv6 : Int32) (h : xH) : Option xR :=
  if xv6 = 0 then
    B_M_deliver_125 z (Int32.ofInt (-1)) xv3 xv2 xv1 (some a0) h
  else
    (rdR h a0 6 27).bind fun r27 =>
    r27.bind fun a28 =>
    (rdA 0 h a28 xv1).bind fun x29 =>
    B_M_deliver_125 z x29 xv3 xv2 xv1 (some a0) h
set_option maxRecDepth 20000 in
theorem E_M_deliver_106 (z : xzs) (a0 : Nat) (xv1 : Int32) (xv2 : Int32) (xv3 : Int32) (xv6 : Int32) (h : xH) : xle (D_M_deliver_106 z a0 xv1 xv2 xv3 xv6 h) (B_M_deliver_106 z a0 xv1 xv2 xv3 xv6 h) := by
  unfold D_M_deliver_106 B_M_deliver_106
  refine xle_next (i := .aload_n 0) (x' := (107, [(0, .ref a0), (1, .int xv1), (2, .int xv2), (3, .int xv3), (6, .int xv6)], [.ref a0], h)) rfl rfl rfl ?_
  refine xle_next (i := .iload_n 1) (x' := (108, [(0, .ref a0), (1, .int xv1), (2, .int xv2), (3, .int xv3), (6, .int xv6)], [.int xv1, .ref a0], h)) rfl rfl rfl ?_
  refine xle_next (i := .iload_n 2) (x' := (109, [(0, .ref a0), (1, .int xv1), (2, .int xv2), (3, .int xv3), (6, .int xv6)], [.int xv2, .int xv1, .ref a0], h)) rfl rfl rfl ?_
  refine xle_next (i := .iload_n 3) (x' := (110, [(0, .ref a0), (1, .int xv1), (2, .int xv2), (3, .int xv3), (6, .int xv6)], [.int xv3, .int xv2, .int xv1, .ref a0], h)) rfl rfl rfl ?_
  refine xle_next (i := .iload 6) (x' := (112, [(0, .ref a0), (1, .int xv1), (2, .int xv2), (3, .int xv3), (6, .int xv6)], [.int xv6, .int xv3, .int xv2, .int xv1, .ref a0], h)) rfl rfl rfl ?_
  refine xle_if (cd := .eq) (q := 124) rfl rfl rfl xc_eq (fun _ => ?_) (fun _ => ?_)
  · refine xle_next (i := .iconst (-1)) (x' := (125, [(0, .ref a0), (1, .int xv1), (2, .int xv2), (3, .int xv3), (6, .int xv6)], [.int (Int32.ofInt (-1)), .int xv3, .int xv2, .int xv1, .ref a0], h)) rfl rfl rfl ?_
    exact xle_jump rfl
  · refine xle_next (i := .aload_n 0) (x' := (116, [(0, .ref a0), (1, .int xv1), (2, .int xv2), (3, .int xv3), (6, .int xv6)], [.ref a0, .int xv3, .int xv2, .int xv1, .ref a0], h)) rfl rfl rfl ?_
    refine xle_getR (f := (6, 27, .array .int, 0)) rfl rfl rfl (fun r27 => ?_)
    refine xle_next (i := .iload_n 1) (x' := (120, [(0, .ref a0), (1, .int xv1), (2, .int xv2), (3, .int xv3), (6, .int xv6)], [.int xv1, va_rf r27, .int xv3, .int xv2, .int xv1, .ref a0], h)) rfl rfl rfl ?_
    refine xle_some (fun r_ => (120, [(0, .ref a0), (1, .int xv1), (2, .int xv2), (3, .int xv3), (6, .int xv6)], [.int xv1, va_rf r_, .int xv3, .int xv2, .int xv1, .ref a0], h)) (fun a28 => ?_)
    refine xle_iald rfl rfl (fun x29 => ?_)
    refine xle_next (i := .goto 4) (x' := (125, [(0, .ref a0), (1, .int xv1), (2, .int xv2), (3, .int xv3), (6, .int xv6)], [.int x29, .int xv3, .int xv2, .int xv1, .ref a0], h)) rfl rfl rfl ?_
    exact xle_jump rfl
noncomputable def D_M_deliver_125 (z : xzs) (xs0 : Int32) (xs1 : Int32) (xs2 : Int32) (xs3 : Int32) (rs4 : Option Nat) (h : xH) : Option xR :=
  rs4.bind fun a30 =>
  (xisO h a30 6).bind fun _ => xclV (f_M_comes z [.ref a30, .int xs3, .int xs2, .int xs1, .int xs0] h) fun h31 =>
  some (.inl none, h31)
set_option maxRecDepth 20000 in
theorem E_M_deliver_125 (z : xzs) (xs0 : Int32) (xs1 : Int32) (xs2 : Int32) (xs3 : Int32) (rs4 : Option Nat) (h : xH) : xle (D_M_deliver_125 z xs0 xs1 xs2 xs3 rs4 h) (B_M_deliver_125 z xs0 xs1 xs2 xs3 rs4 h) := by
  unfold D_M_deliver_125 B_M_deliver_125
  refine xle_some (fun r_ => (125, [], [.int xs0, .int xs1, .int xs2, .int xs3, va_rf r_], h)) (fun a30 => ?_)
  refine xle_isO (i := .invokevirtual 202) (bq := a30) (ci := 6) (fo := (f_M_comes z [.ref a30, .int xs3, .int xs2, .int xs1, .int xs0] h).bind (xback 125 [] [])) rfl rfl rfl (fun hs => ?_)
  refine xle_clV (t := []) rfl rfl hs (fun h31 => ?_)
  exact xle_end (i := .return_) rfl rfl rfl
noncomputable def D_M_noteMessage_0 (z : xzs) (a0 : Nat) (p1 : Int32) (p2 : Int32) (p3 : Int32) (h : xH) : Option xR :=
  (rdR h a0 6 24).bind fun r1 =>
  (rdI h a0 6 38).bind fun x2 =>
  r1.bind fun a3 =>
  (wrI h a3 x2 p1).bind fun h4 =>
  (rdR h4 a0 6 25).bind fun r5 =>
  (rdI h4 a0 6 38).bind fun x6 =>
  r5.bind fun a7 =>
  (wrI h4 a7 x6 p2).bind fun h8 =>
  (rdR h8 a0 6 26).bind fun r9 =>
  (rdI h8 a0 6 38).bind fun x10 =>
  r9.bind fun a11 =>
  (wrI h8 a11 x10 p3).bind fun h12 =>
  some (.inl none, h12)
set_option maxRecDepth 20000 in
theorem E_M_noteMessage (z : xzs) (a0 : Nat) (p1 : Int32) (p2 : Int32) (p3 : Int32) (h : xH) : xle (D_M_noteMessage_0 z a0 p1 p2 p3 h) (xfun (K_M_noteMessage z) 4 [.ref a0, .int p1, .int p2, .int p3] h) := by
  unfold D_M_noteMessage_0
  refine xle_entry (Nat.le_of_ble_eq_true rfl) (xal_c (xca_a _) (xal_c (xca_i _) (xal_c (xca_i _) (xal_c (xca_i _) (rfl))))) ?_
  show xle _ (xev (K_M_noteMessage z) (0, [(0, .ref a0), (1, .int p1), (2, .int p2), (3, .int p3)], [], h))
  refine xle_next (i := .aload_n 0) (x' := (1, [(0, .ref a0), (1, .int p1), (2, .int p2), (3, .int p3)], [.ref a0], h)) rfl rfl rfl ?_
  refine xle_getR (f := (6, 24, .array .int, 0)) rfl rfl rfl (fun r1 => ?_)
  refine xle_next (i := .aload_n 0) (x' := (5, [(0, .ref a0), (1, .int p1), (2, .int p2), (3, .int p3)], [.ref a0, va_rf r1], h)) rfl rfl rfl ?_
  refine xle_getI (f := (6, 38, .int, 1)) rfl rfl rfl (fun x2 => ?_)
  refine xle_next (i := .iload_n 1) (x' := (9, [(0, .ref a0), (1, .int p1), (2, .int p2), (3, .int p3)], [.int p1, .int x2, va_rf r1], h)) rfl rfl rfl ?_
  refine xle_some (fun r_ => (9, [(0, .ref a0), (1, .int p1), (2, .int p2), (3, .int p3)], [.int p1, .int x2, va_rf r_], h)) (fun a3 => ?_)
  refine xle_iast rfl rfl (fun h4 => ?_)
  refine xle_next (i := .aload_n 0) (x' := (11, [(0, .ref a0), (1, .int p1), (2, .int p2), (3, .int p3)], [.ref a0], h4)) rfl rfl rfl ?_
  refine xle_getR (f := (6, 25, .array .int, 0)) rfl rfl rfl (fun r5 => ?_)
  refine xle_next (i := .aload_n 0) (x' := (15, [(0, .ref a0), (1, .int p1), (2, .int p2), (3, .int p3)], [.ref a0, va_rf r5], h4)) rfl rfl rfl ?_
  refine xle_getI (f := (6, 38, .int, 1)) rfl rfl rfl (fun x6 => ?_)
  refine xle_next (i := .iload_n 2) (x' := (19, [(0, .ref a0), (1, .int p1), (2, .int p2), (3, .int p3)], [.int p2, .int x6, va_rf r5], h4)) rfl rfl rfl ?_
  refine xle_some (fun r_ => (19, [(0, .ref a0), (1, .int p1), (2, .int p2), (3, .int p3)], [.int p2, .int x6, va_rf r_], h4)) (fun a7 => ?_)
  refine xle_iast rfl rfl (fun h8 => ?_)
  refine xle_next (i := .aload_n 0) (x' := (21, [(0, .ref a0), (1, .int p1), (2, .int p2), (3, .int p3)], [.ref a0], h8)) rfl rfl rfl ?_
  refine xle_getR (f := (6, 26, .array .int, 0)) rfl rfl rfl (fun r9 => ?_)
  refine xle_next (i := .aload_n 0) (x' := (25, [(0, .ref a0), (1, .int p1), (2, .int p2), (3, .int p3)], [.ref a0, va_rf r9], h8)) rfl rfl rfl ?_
  refine xle_getI (f := (6, 38, .int, 1)) rfl rfl rfl (fun x10 => ?_)
  refine xle_next (i := .iload_n 3) (x' := (29, [(0, .ref a0), (1, .int p1), (2, .int p2), (3, .int p3)], [.int p3, .int x10, va_rf r9], h8)) rfl rfl rfl ?_
  refine xle_some (fun r_ => (29, [(0, .ref a0), (1, .int p1), (2, .int p2), (3, .int p3)], [.int p3, .int x10, va_rf r_], h8)) (fun a11 => ?_)
  refine xle_iast rfl rfl (fun h12 => ?_)
  exact xle_end (i := .return_) rfl rfl rfl
noncomputable def B_M_send_22 (z : xzs) (a0 : Nat) (xv1 : Int32) (xv2 : Int32) (xv3 : Int32) (rs0 : Option Nat) (h : xH) : Option xR := xev (K_M_send z) (22, [(0, .ref a0), (1, .int xv1), (2, .int xv2), (3, .int xv3)], [va_rf rs0], h)
noncomputable def B_M_send_23 (z : xzs) (a0 : Nat) (xv1 : Int32) (xv2 : Int32) (xv3 : Int32) (xs0 : Int32) (rs1 : Option Nat) (h : xH) : Option xR := xev (K_M_send z) (23, [(0, .ref a0), (1, .int xv1), (2, .int xv2), (3, .int xv3)], [.int xs0, va_rf rs1], h)
noncomputable def B_M_send_37 (z : xzs)  (h : xH) : Option xR := xev (K_M_send z) (37, [], [], h)
noncomputable def B_M_send_68 (z : xzs) (a0 : Nat) (xv2 : Int32) (xv3 : Int32) (xv4 : Int32) (xv5 : Int32) (h : xH) : Option xR := xev (K_M_send z) (68, [(0, .ref a0), (2, .int xv2), (3, .int xv3), (4, .int xv4), (5, .int xv5)], [], h)
noncomputable def B_M_send_86 (z : xzs) (a0 : Nat) (xv2 : Int32) (xv4 : Int32) (xv5 : Int32) (xs0 : Int32) (xs1 : Int32) (rs2 : Option Nat) (h : xH) : Option xR := xev (K_M_send z) (86, [(0, .ref a0), (2, .int xv2), (4, .int xv4), (5, .int xv5)], [.int xs0, .int xs1, va_rf rs2], h)
noncomputable def B_M_send_115 (z : xzs)  (h : xH) : Option xR := xev (K_M_send z) (115, [], [], h)
noncomputable def B_M_send_109 (z : xzs) (a0 : Nat) (xv2 : Int32) (xv4 : Int32) (xv5 : Int32) (xs0 : Int32) (rs1 : Option Nat) (h : xH) : Option xR := xev (K_M_send z) (109, [(0, .ref a0), (2, .int xv2), (4, .int xv4), (5, .int xv5)], [.int xs0, va_rf rs1], h)
noncomputable def D_M_send_0 (z : xzs) (a0 : Nat) (p1 : Int32) (p2 : Int32) (p3 : Int32) (h : xH) : Option xR :=
  xclI (f_M_reaches z [.int p1] h) fun x2 h1 =>
  if x2 = 0 then
    B_M_send_22 z a0 p1 p2 p3 (some a0) h1
  else
    xclI (f_M_within z [.int p3, .int (Int32.ofInt (-1)), .int ((Int8.ofInt 71).toInt32)] h1) fun x4 h3 =>
    if x4 = 0 then
      B_M_send_22 z a0 p1 p2 p3 (some a0) h3
    else
      B_M_send_23 z a0 p1 p2 p3 (Int32.ofInt 1) (some a0) h3
set_option maxRecDepth 20000 in
theorem E_M_send (z : xzs) (a0 : Nat) (p1 : Int32) (p2 : Int32) (p3 : Int32) (h : xH) : xle (D_M_send_0 z a0 p1 p2 p3 h) (xfun (K_M_send z) 7 [.ref a0, .int p1, .int p2, .int p3] h) := by
  unfold D_M_send_0
  refine xle_entry (Nat.le_of_ble_eq_true rfl) (xal_c (xca_a _) (xal_c (xca_i _) (xal_c (xca_i _) (xal_c (xca_i _) (rfl))))) ?_
  show xle _ (xev (K_M_send z) (0, [(0, .ref a0), (1, .int p1), (2, .int p2), (3, .int p3)], [], h))
  refine xle_next (i := .aload_n 0) (x' := (1, [(0, .ref a0), (1, .int p1), (2, .int p2), (3, .int p3)], [.ref a0], h)) rfl rfl rfl ?_
  refine xle_next (i := .iload_n 1) (x' := (2, [(0, .ref a0), (1, .int p1), (2, .int p2), (3, .int p3)], [.int p1, .ref a0], h)) rfl rfl rfl ?_
  refine xle_clI (i := .invokestatic 173) (fo := f_M_reaches z [.int p1] h) (t := [.ref a0]) rfl rfl rfl (fun x2 h1 => ?_)
  refine xle_if (cd := .eq) (q := 22) rfl rfl rfl xc_eq (fun _ => ?_) (fun _ => ?_)
  · exact xle_jump rfl
  · refine xle_next (i := .iload_n 3) (x' := (9, [(0, .ref a0), (1, .int p1), (2, .int p2), (3, .int p3)], [.int p3, .ref a0], h1)) rfl rfl rfl ?_
    refine xle_next (i := .iconst (-1)) (x' := (10, [(0, .ref a0), (1, .int p1), (2, .int p2), (3, .int p3)], [.int (Int32.ofInt (-1)), .int p3, .ref a0], h1)) rfl rfl rfl ?_
    refine xle_next (i := .bipush 71) (x' := (12, [(0, .ref a0), (1, .int p1), (2, .int p2), (3, .int p3)], [.int ((Int8.ofInt 71).toInt32), .int (Int32.ofInt (-1)), .int p3, .ref a0], h1)) rfl rfl rfl ?_
    refine xle_clI (i := .invokestatic 169) (fo := f_M_within z [.int p3, .int (Int32.ofInt (-1)), .int ((Int8.ofInt 71).toInt32)] h1) (t := [.ref a0]) rfl rfl rfl (fun x4 h3 => ?_)
    refine xle_if (cd := .eq) (q := 22) rfl rfl rfl xc_eq (fun _ => ?_) (fun _ => ?_)
    · exact xle_jump rfl
    · refine xle_next (i := .iconst 1) (x' := (19, [(0, .ref a0), (1, .int p1), (2, .int p2), (3, .int p3)], [.int (Int32.ofInt 1), .ref a0], h3)) rfl rfl rfl ?_
      refine xle_next (i := .goto 4) (x' := (23, [(0, .ref a0), (1, .int p1), (2, .int p2), (3, .int p3)], [.int (Int32.ofInt 1), .ref a0], h3)) rfl rfl rfl ?_
      exact xle_jump rfl
noncomputable def D_M_send_22 (z : xzs) (a0 : Nat) (xv1 : Int32) (xv2 : Int32) (xv3 : Int32) (rs0 : Option Nat) (h : xH) : Option xR :=
  B_M_send_23 z a0 xv1 xv2 xv3 (Int32.ofInt 0) rs0 h
set_option maxRecDepth 20000 in
theorem E_M_send_22 (z : xzs) (a0 : Nat) (xv1 : Int32) (xv2 : Int32) (xv3 : Int32) (rs0 : Option Nat) (h : xH) : xle (D_M_send_22 z a0 xv1 xv2 xv3 rs0 h) (B_M_send_22 z a0 xv1 xv2 xv3 rs0 h) := by
  unfold D_M_send_22 B_M_send_22
  refine xle_next (i := .iconst 0) (x' := (23, [(0, .ref a0), (1, .int xv1), (2, .int xv2), (3, .int xv3)], [.int (Int32.ofInt 0), va_rf rs0], h)) rfl rfl rfl ?_
  exact xle_jump rfl
noncomputable def D_M_send_23 (z : xzs) (a0 : Nat) (xv1 : Int32) (xv2 : Int32) (xv3 : Int32) (xs0 : Int32) (rs1 : Option Nat) (h : xH) : Option xR :=
  rs1.bind fun a5 =>
  (xisO h a5 6).bind fun _ => xclI (f_M_begins z [.ref a5, .int xs0] h) fun x7 h6 =>
  if x7 = 0 then
    B_M_send_37 z h6
  else
    (xisO h6 a0 6).bind fun _ => xclI (f_M_has z [.ref a0, .int xv1] h6) fun x9 h8 =>
    if ¬ x9 = 0 then
      (rdI h8 a0 6 39).bind fun x10 =>
      if xv3 < 0 then
        B_M_send_68 z a0 xv2 xv3 x10 (Int32.ofInt 0) h8
      else
        (xisO h8 a0 6).bind fun _ => xclI (f_M_has z [.ref a0, .int xv3] h8) fun x12 h11 =>
        if ¬ x12 = 0 then
          (rdI h11 a0 6 39).bind fun x13 =>
          B_M_send_68 z a0 xv2 xv3 x10 x13 h11
        else
          some (.inl (some (.int (Int32.ofInt 0))), h11)
    else
      B_M_send_37 z h8
set_option maxRecDepth 20000 in
theorem E_M_send_23 (z : xzs) (a0 : Nat) (xv1 : Int32) (xv2 : Int32) (xv3 : Int32) (xs0 : Int32) (rs1 : Option Nat) (h : xH) : xle (D_M_send_23 z a0 xv1 xv2 xv3 xs0 rs1 h) (B_M_send_23 z a0 xv1 xv2 xv3 xs0 rs1 h) := by
  unfold D_M_send_23 B_M_send_23
  refine xle_some (fun r_ => (23, [(0, .ref a0), (1, .int xv1), (2, .int xv2), (3, .int xv3)], [.int xs0, va_rf r_], h)) (fun a5 => ?_)
  refine xle_isO (i := .invokevirtual 177) (bq := a5) (ci := 6) (fo := (f_M_begins z [.ref a5, .int xs0] h).bind (xback 23 [(0, .ref a0), (1, .int xv1), (2, .int xv2), (3, .int xv3)] [])) rfl rfl rfl (fun hs => ?_)
  refine xle_clI (t := []) rfl rfl hs (fun x7 h6 => ?_)
  refine xle_if (cd := .eq) (q := 37) rfl rfl rfl xc_eq (fun _ => ?_) (fun _ => ?_)
  · exact xle_jump rfl
  · refine xle_next (i := .aload_n 0) (x' := (30, [(0, .ref a0), (1, .int xv1), (2, .int xv2), (3, .int xv3)], [.ref a0], h6)) rfl rfl rfl ?_
    refine xle_next (i := .iload_n 1) (x' := (31, [(0, .ref a0), (1, .int xv1), (2, .int xv2), (3, .int xv3)], [.int xv1, .ref a0], h6)) rfl rfl rfl ?_
    refine xle_isO (i := .invokevirtual 181) (bq := a0) (ci := 6) (fo := (f_M_has z [.ref a0, .int xv1] h6).bind (xback 31 [(0, .ref a0), (1, .int xv1), (2, .int xv2), (3, .int xv3)] [])) rfl rfl rfl (fun hs => ?_)
    refine xle_clI (t := []) rfl rfl hs (fun x9 h8 => ?_)
    refine xle_if (cd := .ne) (q := 39) rfl rfl rfl xc_ne (fun _ => ?_) (fun _ => ?_)
    · refine xle_next (i := .aload_n 0) (x' := (40, [(0, .ref a0), (1, .int xv1), (2, .int xv2), (3, .int xv3)], [.ref a0], h8)) rfl rfl rfl ?_
      refine xle_getI (f := (6, 39, .int, 1)) rfl rfl rfl (fun x10 => ?_)
      refine xle_next (i := .istore 4) (x' := (45, [(0, .ref a0), (1, .int xv1), (2, .int xv2), (3, .int xv3), (4, .int x10)], [], h8)) rfl rfl rfl ?_
      refine xle_next (i := .iconst 0) (x' := (46, [(0, .ref a0), (1, .int xv1), (2, .int xv2), (3, .int xv3), (4, .int x10)], [.int (Int32.ofInt 0)], h8)) rfl rfl rfl ?_
      refine xle_next (i := .istore 5) (x' := (48, [(0, .ref a0), (1, .int xv1), (2, .int xv2), (3, .int xv3), (4, .int x10), (5, .int (Int32.ofInt 0))], [], h8)) rfl rfl rfl ?_
      refine xle_next (i := .iload_n 3) (x' := (49, [(0, .ref a0), (1, .int xv1), (2, .int xv2), (3, .int xv3), (4, .int x10), (5, .int (Int32.ofInt 0))], [.int xv3], h8)) rfl rfl rfl ?_
      refine xle_if (cd := .lt) (q := 68) rfl rfl rfl xc_lt (fun _ => ?_) (fun _ => ?_)
      · exact xle_jump rfl
      · refine xle_next (i := .aload_n 0) (x' := (53, [(0, .ref a0), (1, .int xv1), (2, .int xv2), (3, .int xv3), (4, .int x10), (5, .int (Int32.ofInt 0))], [.ref a0], h8)) rfl rfl rfl ?_
        refine xle_next (i := .iload_n 3) (x' := (54, [(0, .ref a0), (1, .int xv1), (2, .int xv2), (3, .int xv3), (4, .int x10), (5, .int (Int32.ofInt 0))], [.int xv3, .ref a0], h8)) rfl rfl rfl ?_
        refine xle_isO (i := .invokevirtual 181) (bq := a0) (ci := 6) (fo := (f_M_has z [.ref a0, .int xv3] h8).bind (xback 54 [(0, .ref a0), (1, .int xv1), (2, .int xv2), (3, .int xv3), (4, .int x10), (5, .int (Int32.ofInt 0))] [])) rfl rfl rfl (fun hs => ?_)
        refine xle_clI (t := []) rfl rfl hs (fun x12 h11 => ?_)
        refine xle_if (cd := .ne) (q := 62) rfl rfl rfl xc_ne (fun _ => ?_) (fun _ => ?_)
        · refine xle_next (i := .aload_n 0) (x' := (63, [(0, .ref a0), (1, .int xv1), (2, .int xv2), (3, .int xv3), (4, .int x10), (5, .int (Int32.ofInt 0))], [.ref a0], h11)) rfl rfl rfl ?_
          refine xle_getI (f := (6, 39, .int, 1)) rfl rfl rfl (fun x13 => ?_)
          refine xle_next (i := .istore 5) (x' := (68, [(0, .ref a0), (1, .int xv1), (2, .int xv2), (3, .int xv3), (4, .int x10), (5, .int x13)], [], h11)) rfl rfl rfl ?_
          exact xle_jump rfl
        · refine xle_next (i := .iconst 0) (x' := (61, [(0, .ref a0), (1, .int xv1), (2, .int xv2), (3, .int xv3), (4, .int x10), (5, .int (Int32.ofInt 0))], [.int (Int32.ofInt 0)], h11)) rfl rfl rfl ?_
          exact xle_end (i := .ireturn) rfl rfl rfl
    · exact xle_jump rfl
noncomputable def D_M_send_37 (z : xzs)  (h : xH) : Option xR :=
  some (.inl (some (.int (Int32.ofInt 0))), h)
set_option maxRecDepth 20000 in
theorem E_M_send_37 (z : xzs)  (h : xH) : xle (D_M_send_37 z  h) (B_M_send_37 z  h) := by
  unfold D_M_send_37 B_M_send_37
  refine xle_next (i := .iconst 0) (x' := (38, [], [.int (Int32.ofInt 0)], h)) rfl rfl rfl ?_
  exact xle_end (i := .ireturn) rfl rfl rfl
noncomputable def D_M_send_68 (z : xzs) (a0 : Nat) (xv2 : Int32) (xv3 : Int32) (xv4 : Int32) (xv5 : Int32) (h : xH) : Option xR :=
  (xwr h a0 6 39 (.int xv4)).bind fun h14 =>
  if xv3 < 0 then
    B_M_send_86 z a0 xv2 xv4 xv5 (Int32.ofInt 2) (Int32.ofInt 1) (some a0) h14
  else
    B_M_send_86 z a0 xv2 xv4 xv5 ((Int8.ofInt 6).toInt32) (Int32.ofInt 1) (some a0) h14
set_option maxRecDepth 20000 in
theorem E_M_send_68 (z : xzs) (a0 : Nat) (xv2 : Int32) (xv3 : Int32) (xv4 : Int32) (xv5 : Int32) (h : xH) : xle (D_M_send_68 z a0 xv2 xv3 xv4 xv5 h) (B_M_send_68 z a0 xv2 xv3 xv4 xv5 h) := by
  unfold D_M_send_68 B_M_send_68
  refine xle_next (i := .aload_n 0) (x' := (69, [(0, .ref a0), (2, .int xv2), (3, .int xv3), (4, .int xv4), (5, .int xv5)], [.ref a0], h)) rfl rfl rfl ?_
  refine xle_next (i := .iload 4) (x' := (71, [(0, .ref a0), (2, .int xv2), (3, .int xv3), (4, .int xv4), (5, .int xv5)], [.int xv4, .ref a0], h)) rfl rfl rfl ?_
  refine xle_put (v := .int xv4) (f := (6, 39, .int, 1)) rfl rfl rfl ⟨by decide, rfl, rfl⟩ (fun h14 => ?_)
  refine xle_next (i := .aload_n 0) (x' := (75, [(0, .ref a0), (2, .int xv2), (3, .int xv3), (4, .int xv4), (5, .int xv5)], [.ref a0], h14)) rfl rfl rfl ?_
  refine xle_next (i := .iconst 1) (x' := (76, [(0, .ref a0), (2, .int xv2), (3, .int xv3), (4, .int xv4), (5, .int xv5)], [.int (Int32.ofInt 1), .ref a0], h14)) rfl rfl rfl ?_
  refine xle_next (i := .iload_n 3) (x' := (77, [(0, .ref a0), (2, .int xv2), (3, .int xv3), (4, .int xv4), (5, .int xv5)], [.int xv3, .int (Int32.ofInt 1), .ref a0], h14)) rfl rfl rfl ?_
  refine xle_if (cd := .lt) (q := 85) rfl rfl rfl xc_lt (fun _ => ?_) (fun _ => ?_)
  · refine xle_next (i := .iconst 2) (x' := (86, [(0, .ref a0), (2, .int xv2), (3, .int xv3), (4, .int xv4), (5, .int xv5)], [.int (Int32.ofInt 2), .int (Int32.ofInt 1), .ref a0], h14)) rfl rfl rfl ?_
    exact xle_jump rfl
  · refine xle_next (i := .bipush 6) (x' := (82, [(0, .ref a0), (2, .int xv2), (3, .int xv3), (4, .int xv4), (5, .int xv5)], [.int ((Int8.ofInt 6).toInt32), .int (Int32.ofInt 1), .ref a0], h14)) rfl rfl rfl ?_
    refine xle_next (i := .goto 4) (x' := (86, [(0, .ref a0), (2, .int xv2), (3, .int xv3), (4, .int xv4), (5, .int xv5)], [.int ((Int8.ofInt 6).toInt32), .int (Int32.ofInt 1), .ref a0], h14)) rfl rfl rfl ?_
    exact xle_jump rfl
noncomputable def D_M_send_86 (z : xzs) (a0 : Nat) (xv2 : Int32) (xv4 : Int32) (xv5 : Int32) (xs0 : Int32) (xs1 : Int32) (rs2 : Option Nat) (h : xH) : Option xR :=
  rs2.bind fun a15 =>
  (xisO h a15 6).bind fun _ => xclI (f_M_is z [.ref a15, .int xs1, .int xs0] h) fun x17 h16 =>
  if x17 = 0 then
    B_M_send_115 z h16
  else
    (rdR h16 a0 6 8).bind fun r18 =>
    r18.bind fun a19 =>
    (rdA 0 h16 a19 xv4).bind fun x20 =>
    if x20 ≤ (Int32.ofInt 1) then
      B_M_send_109 z a0 xv2 xv4 xv5 (Int32.ofInt 0) (some a0) h16
    else
      B_M_send_109 z a0 xv2 xv4 xv5 (Int32.ofInt 1) (some a0) h16
set_option maxRecDepth 20000 in
theorem E_M_send_86 (z : xzs) (a0 : Nat) (xv2 : Int32) (xv4 : Int32) (xv5 : Int32) (xs0 : Int32) (xs1 : Int32) (rs2 : Option Nat) (h : xH) : xle (D_M_send_86 z a0 xv2 xv4 xv5 xs0 xs1 rs2 h) (B_M_send_86 z a0 xv2 xv4 xv5 xs0 xs1 rs2 h) := by
  unfold D_M_send_86 B_M_send_86
  refine xle_some (fun r_ => (86, [(0, .ref a0), (2, .int xv2), (4, .int xv4), (5, .int xv5)], [.int xs0, .int xs1, va_rf r_], h)) (fun a15 => ?_)
  refine xle_isO (i := .invokevirtual 199) (bq := a15) (ci := 6) (fo := (f_M_is z [.ref a15, .int xs1, .int xs0] h).bind (xback 86 [(0, .ref a0), (2, .int xv2), (4, .int xv4), (5, .int xv5)] [])) rfl rfl rfl (fun hs => ?_)
  refine xle_clI (t := []) rfl rfl hs (fun x17 h16 => ?_)
  refine xle_if (cd := .eq) (q := 115) rfl rfl rfl xc_eq (fun _ => ?_) (fun _ => ?_)
  · exact xle_jump rfl
  · refine xle_next (i := .aload_n 0) (x' := (93, [(0, .ref a0), (2, .int xv2), (4, .int xv4), (5, .int xv5)], [.ref a0], h16)) rfl rfl rfl ?_
    refine xle_next (i := .aload_n 0) (x' := (94, [(0, .ref a0), (2, .int xv2), (4, .int xv4), (5, .int xv5)], [.ref a0, .ref a0], h16)) rfl rfl rfl ?_
    refine xle_getR (f := (6, 8, .array .int, 0)) rfl rfl rfl (fun r18 => ?_)
    refine xle_next (i := .iload 4) (x' := (99, [(0, .ref a0), (2, .int xv2), (4, .int xv4), (5, .int xv5)], [.int xv4, va_rf r18, .ref a0], h16)) rfl rfl rfl ?_
    refine xle_some (fun r_ => (99, [(0, .ref a0), (2, .int xv2), (4, .int xv4), (5, .int xv5)], [.int xv4, va_rf r_, .ref a0], h16)) (fun a19 => ?_)
    refine xle_iald rfl rfl (fun x20 => ?_)
    refine xle_next (i := .iconst 1) (x' := (101, [(0, .ref a0), (2, .int xv2), (4, .int xv4), (5, .int xv5)], [.int (Int32.ofInt 1), .int x20, .ref a0], h16)) rfl rfl rfl ?_
    refine xle_icmp (cd := .le) (q := 108) rfl rfl rfl xc_le (fun _ => ?_) (fun _ => ?_)
    · refine xle_next (i := .iconst 0) (x' := (109, [(0, .ref a0), (2, .int xv2), (4, .int xv4), (5, .int xv5)], [.int (Int32.ofInt 0), .ref a0], h16)) rfl rfl rfl ?_
      exact xle_jump rfl
    · refine xle_next (i := .iconst 1) (x' := (105, [(0, .ref a0), (2, .int xv2), (4, .int xv4), (5, .int xv5)], [.int (Int32.ofInt 1), .ref a0], h16)) rfl rfl rfl ?_
      refine xle_next (i := .goto 4) (x' := (109, [(0, .ref a0), (2, .int xv2), (4, .int xv4), (5, .int xv5)], [.int (Int32.ofInt 1), .ref a0], h16)) rfl rfl rfl ?_
      exact xle_jump rfl
noncomputable def D_M_send_115 (z : xzs)  (h : xH) : Option xR :=
  some (.inl (some (.int (Int32.ofInt 0))), h)
set_option maxRecDepth 20000 in
theorem E_M_send_115 (z : xzs)  (h : xH) : xle (D_M_send_115 z  h) (B_M_send_115 z  h) := by
  unfold D_M_send_115 B_M_send_115
  refine xle_next (i := .iconst 0) (x' := (116, [], [.int (Int32.ofInt 0)], h)) rfl rfl rfl ?_
  exact xle_end (i := .ireturn) rfl rfl rfl
noncomputable def D_M_send_109 (z : xzs) (a0 : Nat) (xv2 : Int32) (xv4 : Int32) (xv5 : Int32) (xs0 : Int32) (rs1 : Option Nat) (h : xH) : Option xR :=
  rs1.bind fun a21 =>
  (xisO h a21 6).bind fun _ => xclI (f_M_so z [.ref a21, .int xs0] h) fun x23 h22 =>
  if ¬ x23 = 0 then
    (rdR h22 a0 6 8).bind fun r24 =>
    r24.bind fun a25 =>
    (rdA 0 h22 a25 xv4).bind fun x26 =>
    (xisO h22 a0 6).bind fun _ => xclI (f_M_waiting z [.ref a0, .int x26, .int (Int32.ofInt 4), .int (Int32.ofInt 4)] h22) fun x28 h27 =>
    if x28 ≤ 0 then
      (rdR h27 a0 6 10).bind fun r29 =>
      r29.bind fun a30 =>
      (rdA 0 h27 a30 xv4).bind fun x31 =>
      (xisO h27 a0 6).bind fun _ => xclV (f_M_noteMessage z [.ref a0, .int xv2, .int x31, .int xv5] h27) fun h32 =>
      (rdI h32 a0 6 38).bind fun x33 =>
      (rdR h32 a0 6 8).bind fun r34 =>
      r34.bind fun a35 =>
      (rdA 0 h32 a35 xv4).bind fun x36 =>
      (xisO h32 a0 6).bind fun _ => xclV (f_M_waits z [.ref a0, .int x33, .int (Int32.ofInt 1), .int x36] h32) fun h37 =>
      some (.inl (some (.int (Int32.ofInt 1))), h37)
    else
      (rdR h27 a0 6 10).bind fun r38 =>
      r38.bind fun a39 =>
      (rdA 0 h27 a39 xv4).bind fun x40 =>
      (xisO h27 a0 6).bind fun _ => xclV (f_M_deliver z [.ref a0, .int x28, .int xv2, .int x40, .int xv5] h27) fun h41 =>
      (xisO h41 a0 6).bind fun _ => xclV (f_M_ready z [.ref a0, .int x28] h41) fun h42 =>
      some (.inl (some (.int (Int32.ofInt 0))), h42)
  else
    B_M_send_115 z h22
set_option maxRecDepth 20000 in
theorem E_M_send_109 (z : xzs) (a0 : Nat) (xv2 : Int32) (xv4 : Int32) (xv5 : Int32) (xs0 : Int32) (rs1 : Option Nat) (h : xH) : xle (D_M_send_109 z a0 xv2 xv4 xv5 xs0 rs1 h) (B_M_send_109 z a0 xv2 xv4 xv5 xs0 rs1 h) := by
  unfold D_M_send_109 B_M_send_109
  refine xle_some (fun r_ => (109, [(0, .ref a0), (2, .int xv2), (4, .int xv4), (5, .int xv5)], [.int xs0, va_rf r_], h)) (fun a21 => ?_)
  refine xle_isO (i := .invokevirtual 187) (bq := a21) (ci := 6) (fo := (f_M_so z [.ref a21, .int xs0] h).bind (xback 109 [(0, .ref a0), (2, .int xv2), (4, .int xv4), (5, .int xv5)] [])) rfl rfl rfl (fun hs => ?_)
  refine xle_clI (t := []) rfl rfl hs (fun x23 h22 => ?_)
  refine xle_if (cd := .ne) (q := 117) rfl rfl rfl xc_ne (fun _ => ?_) (fun _ => ?_)
  · refine xle_next (i := .aload_n 0) (x' := (118, [(0, .ref a0), (2, .int xv2), (4, .int xv4), (5, .int xv5)], [.ref a0], h22)) rfl rfl rfl ?_
    refine xle_next (i := .aload_n 0) (x' := (119, [(0, .ref a0), (2, .int xv2), (4, .int xv4), (5, .int xv5)], [.ref a0, .ref a0], h22)) rfl rfl rfl ?_
    refine xle_getR (f := (6, 8, .array .int, 0)) rfl rfl rfl (fun r24 => ?_)
    refine xle_next (i := .iload 4) (x' := (124, [(0, .ref a0), (2, .int xv2), (4, .int xv4), (5, .int xv5)], [.int xv4, va_rf r24, .ref a0], h22)) rfl rfl rfl ?_
    refine xle_some (fun r_ => (124, [(0, .ref a0), (2, .int xv2), (4, .int xv4), (5, .int xv5)], [.int xv4, va_rf r_, .ref a0], h22)) (fun a25 => ?_)
    refine xle_iald rfl rfl (fun x26 => ?_)
    refine xle_next (i := .iconst 4) (x' := (126, [(0, .ref a0), (2, .int xv2), (4, .int xv4), (5, .int xv5)], [.int (Int32.ofInt 4), .int x26, .ref a0], h22)) rfl rfl rfl ?_
    refine xle_next (i := .iconst 4) (x' := (127, [(0, .ref a0), (2, .int xv2), (4, .int xv4), (5, .int xv5)], [.int (Int32.ofInt 4), .int (Int32.ofInt 4), .int x26, .ref a0], h22)) rfl rfl rfl ?_
    refine xle_isO (i := .invokevirtual 128) (bq := a0) (ci := 6) (fo := (f_M_waiting z [.ref a0, .int x26, .int (Int32.ofInt 4), .int (Int32.ofInt 4)] h22).bind (xback 127 [(0, .ref a0), (2, .int xv2), (4, .int xv4), (5, .int xv5)] [])) rfl rfl rfl (fun hs => ?_)
    refine xle_clI (t := []) rfl rfl hs (fun x28 h27 => ?_)
    refine xle_next (i := .istore 6) (x' := (132, [(0, .ref a0), (2, .int xv2), (4, .int xv4), (5, .int xv5), (6, .int x28)], [], h27)) rfl rfl rfl ?_
    refine xle_next (i := .iload 6) (x' := (134, [(0, .ref a0), (2, .int xv2), (4, .int xv4), (5, .int xv5), (6, .int x28)], [.int x28], h27)) rfl rfl rfl ?_
    refine xle_if (cd := .le) (q := 161) rfl rfl rfl xc_le (fun _ => ?_) (fun _ => ?_)
    · refine xle_next (i := .aload_n 0) (x' := (162, [(0, .ref a0), (2, .int xv2), (4, .int xv4), (5, .int xv5), (6, .int x28)], [.ref a0], h27)) rfl rfl rfl ?_
      refine xle_next (i := .iload_n 2) (x' := (163, [(0, .ref a0), (2, .int xv2), (4, .int xv4), (5, .int xv5), (6, .int x28)], [.int xv2, .ref a0], h27)) rfl rfl rfl ?_
      refine xle_next (i := .aload_n 0) (x' := (164, [(0, .ref a0), (2, .int xv2), (4, .int xv4), (5, .int xv5), (6, .int x28)], [.ref a0, .int xv2, .ref a0], h27)) rfl rfl rfl ?_
      refine xle_getR (f := (6, 10, .array .int, 0)) rfl rfl rfl (fun r29 => ?_)
      refine xle_next (i := .iload 4) (x' := (169, [(0, .ref a0), (2, .int xv2), (4, .int xv4), (5, .int xv5), (6, .int x28)], [.int xv4, va_rf r29, .int xv2, .ref a0], h27)) rfl rfl rfl ?_
      refine xle_some (fun r_ => (169, [(0, .ref a0), (2, .int xv2), (4, .int xv4), (5, .int xv5), (6, .int x28)], [.int xv4, va_rf r_, .int xv2, .ref a0], h27)) (fun a30 => ?_)
      refine xle_iald rfl rfl (fun x31 => ?_)
      refine xle_next (i := .iload 5) (x' := (172, [(0, .ref a0), (2, .int xv2), (4, .int xv4), (5, .int xv5), (6, .int x28)], [.int xv5, .int x31, .int xv2, .ref a0], h27)) rfl rfl rfl ?_
      refine xle_isO (i := .invokevirtual 209) (bq := a0) (ci := 6) (fo := (f_M_noteMessage z [.ref a0, .int xv2, .int x31, .int xv5] h27).bind (xback 172 [(0, .ref a0), (2, .int xv2), (4, .int xv4), (5, .int xv5), (6, .int x28)] [])) rfl rfl rfl (fun hs => ?_)
      refine xle_clV (t := []) rfl rfl hs (fun h32 => ?_)
      refine xle_next (i := .aload_n 0) (x' := (176, [(0, .ref a0), (2, .int xv2), (4, .int xv4), (5, .int xv5), (6, .int x28)], [.ref a0], h32)) rfl rfl rfl ?_
      refine xle_next (i := .aload_n 0) (x' := (177, [(0, .ref a0), (2, .int xv2), (4, .int xv4), (5, .int xv5), (6, .int x28)], [.ref a0, .ref a0], h32)) rfl rfl rfl ?_
      refine xle_getI (f := (6, 38, .int, 1)) rfl rfl rfl (fun x33 => ?_)
      refine xle_next (i := .iconst 1) (x' := (181, [(0, .ref a0), (2, .int xv2), (4, .int xv4), (5, .int xv5), (6, .int x28)], [.int (Int32.ofInt 1), .int x33, .ref a0], h32)) rfl rfl rfl ?_
      refine xle_next (i := .aload_n 0) (x' := (182, [(0, .ref a0), (2, .int xv2), (4, .int xv4), (5, .int xv5), (6, .int x28)], [.ref a0, .int (Int32.ofInt 1), .int x33, .ref a0], h32)) rfl rfl rfl ?_
      refine xle_getR (f := (6, 8, .array .int, 0)) rfl rfl rfl (fun r34 => ?_)
      refine xle_next (i := .iload 4) (x' := (187, [(0, .ref a0), (2, .int xv2), (4, .int xv4), (5, .int xv5), (6, .int x28)], [.int xv4, va_rf r34, .int (Int32.ofInt 1), .int x33, .ref a0], h32)) rfl rfl rfl ?_
      refine xle_some (fun r_ => (187, [(0, .ref a0), (2, .int xv2), (4, .int xv4), (5, .int xv5), (6, .int x28)], [.int xv4, va_rf r_, .int (Int32.ofInt 1), .int x33, .ref a0], h32)) (fun a35 => ?_)
      refine xle_iald rfl rfl (fun x36 => ?_)
      refine xle_isO (i := .invokevirtual 213) (bq := a0) (ci := 6) (fo := (f_M_waits z [.ref a0, .int x33, .int (Int32.ofInt 1), .int x36] h32).bind (xback 188 [(0, .ref a0), (2, .int xv2), (4, .int xv4), (5, .int xv5), (6, .int x28)] [])) rfl rfl rfl (fun hs => ?_)
      refine xle_clV (t := []) rfl rfl hs (fun h37 => ?_)
      refine xle_next (i := .iconst 1) (x' := (192, [(0, .ref a0), (2, .int xv2), (4, .int xv4), (5, .int xv5), (6, .int x28)], [.int (Int32.ofInt 1)], h37)) rfl rfl rfl ?_
      exact xle_end (i := .ireturn) rfl rfl rfl
    · refine xle_next (i := .aload_n 0) (x' := (138, [(0, .ref a0), (2, .int xv2), (4, .int xv4), (5, .int xv5), (6, .int x28)], [.ref a0], h27)) rfl rfl rfl ?_
      refine xle_next (i := .iload 6) (x' := (140, [(0, .ref a0), (2, .int xv2), (4, .int xv4), (5, .int xv5), (6, .int x28)], [.int x28, .ref a0], h27)) rfl rfl rfl ?_
      refine xle_next (i := .iload_n 2) (x' := (141, [(0, .ref a0), (2, .int xv2), (4, .int xv4), (5, .int xv5), (6, .int x28)], [.int xv2, .int x28, .ref a0], h27)) rfl rfl rfl ?_
      refine xle_next (i := .aload_n 0) (x' := (142, [(0, .ref a0), (2, .int xv2), (4, .int xv4), (5, .int xv5), (6, .int x28)], [.ref a0, .int xv2, .int x28, .ref a0], h27)) rfl rfl rfl ?_
      refine xle_getR (f := (6, 10, .array .int, 0)) rfl rfl rfl (fun r38 => ?_)
      refine xle_next (i := .iload 4) (x' := (147, [(0, .ref a0), (2, .int xv2), (4, .int xv4), (5, .int xv5), (6, .int x28)], [.int xv4, va_rf r38, .int xv2, .int x28, .ref a0], h27)) rfl rfl rfl ?_
      refine xle_some (fun r_ => (147, [(0, .ref a0), (2, .int xv2), (4, .int xv4), (5, .int xv5), (6, .int x28)], [.int xv4, va_rf r_, .int xv2, .int x28, .ref a0], h27)) (fun a39 => ?_)
      refine xle_iald rfl rfl (fun x40 => ?_)
      refine xle_next (i := .iload 5) (x' := (150, [(0, .ref a0), (2, .int xv2), (4, .int xv4), (5, .int xv5), (6, .int x28)], [.int xv5, .int x40, .int xv2, .int x28, .ref a0], h27)) rfl rfl rfl ?_
      refine xle_isO (i := .invokevirtual 206) (bq := a0) (ci := 6) (fo := (f_M_deliver z [.ref a0, .int x28, .int xv2, .int x40, .int xv5] h27).bind (xback 150 [(0, .ref a0), (2, .int xv2), (4, .int xv4), (5, .int xv5), (6, .int x28)] [])) rfl rfl rfl (fun hs => ?_)
      refine xle_clV (t := []) rfl rfl hs (fun h41 => ?_)
      refine xle_next (i := .aload_n 0) (x' := (154, [(0, .ref a0), (2, .int xv2), (4, .int xv4), (5, .int xv5), (6, .int x28)], [.ref a0], h41)) rfl rfl rfl ?_
      refine xle_next (i := .iload 6) (x' := (156, [(0, .ref a0), (2, .int xv2), (4, .int xv4), (5, .int xv5), (6, .int x28)], [.int x28, .ref a0], h41)) rfl rfl rfl ?_
      refine xle_isO (i := .invokevirtual 132) (bq := a0) (ci := 6) (fo := (f_M_ready z [.ref a0, .int x28] h41).bind (xback 156 [(0, .ref a0), (2, .int xv2), (4, .int xv4), (5, .int xv5), (6, .int x28)] [])) rfl rfl rfl (fun hs => ?_)
      refine xle_clV (t := []) rfl rfl hs (fun h42 => ?_)
      refine xle_next (i := .iconst 0) (x' := (160, [(0, .ref a0), (2, .int xv2), (4, .int xv4), (5, .int xv5), (6, .int x28)], [.int (Int32.ofInt 0)], h42)) rfl rfl rfl ?_
      exact xle_end (i := .ireturn) rfl rfl rfl
  · exact xle_jump rfl
noncomputable def B_M_names_12 (z : xzs)  (h : xH) : Option xR := xev (K_M_names z) (12, [], [], h)
noncomputable def B_M_names_41 (z : xzs) (a0 : Nat) (xv2 : Int32) (xs0 : Int32) (h : xH) : Option xR := xev (K_M_names z) (41, [(0, .ref a0), (2, .int xv2)], [.int xs0], h)
noncomputable def B_M_names_55 (z : xzs)  (h : xH) : Option xR := xev (K_M_names z) (55, [], [], h)
noncomputable def D_M_names_0 (z : xzs) (a0 : Nat) (p1 : Int32) (p2 : Int32) (h : xH) : Option xR :=
  if p1 < 0 then
    B_M_names_12 z h
  else
    if (p1 / ((Int8.ofInt 100).toInt32)) = (Int32.ofInt 1) then
      xclI (f_M_reaches z [.int (p1 - p1 / ((Int8.ofInt 100).toInt32) * ((Int8.ofInt 100).toInt32))] h) fun x2 h1 =>
      if x2 = 0 then
        B_M_names_41 z a0 p2 (Int32.ofInt (-1)) h1
      else
        (rdI h1 a0 6 38).bind fun x3 =>
        (xisO h1 a0 6).bind fun _ => xclI (f_M_place z [.ref a0, .int x3, .int (p1 - p1 / ((Int8.ofInt 100).toInt32) * ((Int8.ofInt 100).toInt32))] h1) fun x5 h4 =>
        B_M_names_41 z a0 p2 x5 h4
    else
      B_M_names_12 z h
set_option maxRecDepth 20000 in
theorem E_M_names (z : xzs) (a0 : Nat) (p1 : Int32) (p2 : Int32) (h : xH) : xle (D_M_names_0 z a0 p1 p2 h) (xfun (K_M_names z) 4 [.ref a0, .int p1, .int p2] h) := by
  unfold D_M_names_0
  refine xle_entry (Nat.le_of_ble_eq_true rfl) (xal_c (xca_a _) (xal_c (xca_i _) (xal_c (xca_i _) (rfl)))) ?_
  show xle _ (xev (K_M_names z) (0, [(0, .ref a0), (1, .int p1), (2, .int p2)], [], h))
  refine xle_next (i := .iload_n 1) (x' := (1, [(0, .ref a0), (1, .int p1), (2, .int p2)], [.int p1], h)) rfl rfl rfl ?_
  refine xle_if (cd := .lt) (q := 12) rfl rfl rfl xc_lt (fun _ => ?_) (fun _ => ?_)
  · exact xle_jump rfl
  · refine xle_next (i := .iload_n 1) (x' := (5, [(0, .ref a0), (1, .int p1), (2, .int p2)], [.int p1], h)) rfl rfl rfl ?_
    refine xle_next (i := .bipush 100) (x' := (7, [(0, .ref a0), (1, .int p1), (2, .int p2)], [.int ((Int8.ofInt 100).toInt32), .int p1], h)) rfl rfl rfl ?_
    refine xle_next (i := .idiv) (x' := (8, [(0, .ref a0), (1, .int p1), (2, .int p2)], [.int (p1 / ((Int8.ofInt 100).toInt32))], h)) rfl rfl rfl ?_
    refine xle_next (i := .iconst 1) (x' := (9, [(0, .ref a0), (1, .int p1), (2, .int p2)], [.int (Int32.ofInt 1), .int (p1 / ((Int8.ofInt 100).toInt32))], h)) rfl rfl rfl ?_
    refine xle_icmp (cd := .eq) (q := 15) rfl rfl rfl xc_eq (fun _ => ?_) (fun _ => ?_)
    · refine xle_next (i := .iload_n 1) (x' := (16, [(0, .ref a0), (1, .int p1), (2, .int p2)], [.int p1], h)) rfl rfl rfl ?_
      refine xle_next (i := .bipush 100) (x' := (18, [(0, .ref a0), (1, .int p1), (2, .int p2)], [.int ((Int8.ofInt 100).toInt32), .int p1], h)) rfl rfl rfl ?_
      refine xle_next (i := .irem) (x' := (19, [(0, .ref a0), (1, .int p1), (2, .int p2)], [.int (p1 - p1 / ((Int8.ofInt 100).toInt32) * ((Int8.ofInt 100).toInt32))], h)) rfl rfl rfl ?_
      refine xle_clI (i := .invokestatic 173) (fo := f_M_reaches z [.int (p1 - p1 / ((Int8.ofInt 100).toInt32) * ((Int8.ofInt 100).toInt32))] h) (t := []) rfl rfl rfl (fun x2 h1 => ?_)
      refine xle_if (cd := .eq) (q := 40) rfl rfl rfl xc_eq (fun _ => ?_) (fun _ => ?_)
      · refine xle_next (i := .iconst (-1)) (x' := (41, [(0, .ref a0), (1, .int p1), (2, .int p2)], [.int (Int32.ofInt (-1))], h1)) rfl rfl rfl ?_
        exact xle_jump rfl
      · refine xle_next (i := .aload_n 0) (x' := (26, [(0, .ref a0), (1, .int p1), (2, .int p2)], [.ref a0], h1)) rfl rfl rfl ?_
        refine xle_next (i := .aload_n 0) (x' := (27, [(0, .ref a0), (1, .int p1), (2, .int p2)], [.ref a0, .ref a0], h1)) rfl rfl rfl ?_
        refine xle_getI (f := (6, 38, .int, 1)) rfl rfl rfl (fun x3 => ?_)
        refine xle_next (i := .iload_n 1) (x' := (31, [(0, .ref a0), (1, .int p1), (2, .int p2)], [.int p1, .int x3, .ref a0], h1)) rfl rfl rfl ?_
        refine xle_next (i := .bipush 100) (x' := (33, [(0, .ref a0), (1, .int p1), (2, .int p2)], [.int ((Int8.ofInt 100).toInt32), .int p1, .int x3, .ref a0], h1)) rfl rfl rfl ?_
        refine xle_next (i := .irem) (x' := (34, [(0, .ref a0), (1, .int p1), (2, .int p2)], [.int (p1 - p1 / ((Int8.ofInt 100).toInt32) * ((Int8.ofInt 100).toInt32)), .int x3, .ref a0], h1)) rfl rfl rfl ?_
        refine xle_isO (i := .invokevirtual 124) (bq := a0) (ci := 6) (fo := (f_M_place z [.ref a0, .int x3, .int (p1 - p1 / ((Int8.ofInt 100).toInt32) * ((Int8.ofInt 100).toInt32))] h1).bind (xback 34 [(0, .ref a0), (1, .int p1), (2, .int p2)] [])) rfl rfl rfl (fun hs => ?_)
        refine xle_clI (t := []) rfl rfl hs (fun x5 h4 => ?_)
        refine xle_next (i := .goto 4) (x' := (41, [(0, .ref a0), (1, .int p1), (2, .int p2)], [.int x5], h4)) rfl rfl rfl ?_
        exact xle_jump rfl
    · exact xle_jump rfl
noncomputable def D_M_names_12 (z : xzs)  (h : xH) : Option xR :=
  some (.inl (some (.int ((Int8.ofInt (-2)).toInt32))), h)
set_option maxRecDepth 20000 in
theorem E_M_names_12 (z : xzs)  (h : xH) : xle (D_M_names_12 z  h) (B_M_names_12 z  h) := by
  unfold D_M_names_12 B_M_names_12
  refine xle_next (i := .bipush (-2)) (x' := (14, [], [.int ((Int8.ofInt (-2)).toInt32)], h)) rfl rfl rfl ?_
  exact xle_end (i := .ireturn) rfl rfl rfl
noncomputable def D_M_names_41 (z : xzs) (a0 : Nat) (xv2 : Int32) (xs0 : Int32) (h : xH) : Option xR :=
  if xs0 < 0 then
    B_M_names_55 z h
  else
    (rdR h a0 6 14).bind fun r6 =>
    r6.bind fun a7 =>
    (rdA 0 h a7 xs0).bind fun x8 =>
    if x8 ≤ 0 then
      (xisO h a0 6).bind fun _ => xclI (f_M_put z [.ref a0, .int xs0, .int (Int32.ofInt 1), .int (Int32.ofInt 2), .int xv2, .int (Int32.ofInt 0)] h) fun x10 h9 =>
      some (.inl (some (.int (Int32.ofInt 0))), h9)
    else
      B_M_names_55 z h
set_option maxRecDepth 20000 in
theorem E_M_names_41 (z : xzs) (a0 : Nat) (xv2 : Int32) (xs0 : Int32) (h : xH) : xle (D_M_names_41 z a0 xv2 xs0 h) (B_M_names_41 z a0 xv2 xs0 h) := by
  unfold D_M_names_41 B_M_names_41
  refine xle_next (i := .istore_n 3) (x' := (42, [(0, .ref a0), (2, .int xv2), (3, .int xs0)], [], h)) rfl rfl rfl ?_
  refine xle_next (i := .iload_n 3) (x' := (43, [(0, .ref a0), (2, .int xv2), (3, .int xs0)], [.int xs0], h)) rfl rfl rfl ?_
  refine xle_if (cd := .lt) (q := 55) rfl rfl rfl xc_lt (fun _ => ?_) (fun _ => ?_)
  · exact xle_jump rfl
  · refine xle_next (i := .aload_n 0) (x' := (47, [(0, .ref a0), (2, .int xv2), (3, .int xs0)], [.ref a0], h)) rfl rfl rfl ?_
    refine xle_getR (f := (6, 14, .array .int, 0)) rfl rfl rfl (fun r6 => ?_)
    refine xle_next (i := .iload_n 3) (x' := (51, [(0, .ref a0), (2, .int xv2), (3, .int xs0)], [.int xs0, va_rf r6], h)) rfl rfl rfl ?_
    refine xle_some (fun r_ => (51, [(0, .ref a0), (2, .int xv2), (3, .int xs0)], [.int xs0, va_rf r_], h)) (fun a7 => ?_)
    refine xle_iald rfl rfl (fun x8 => ?_)
    refine xle_if (cd := .le) (q := 57) rfl rfl rfl xc_le (fun _ => ?_) (fun _ => ?_)
    · refine xle_next (i := .aload_n 0) (x' := (58, [(0, .ref a0), (2, .int xv2), (3, .int xs0)], [.ref a0], h)) rfl rfl rfl ?_
      refine xle_next (i := .iload_n 3) (x' := (59, [(0, .ref a0), (2, .int xv2), (3, .int xs0)], [.int xs0, .ref a0], h)) rfl rfl rfl ?_
      refine xle_next (i := .iconst 1) (x' := (60, [(0, .ref a0), (2, .int xv2), (3, .int xs0)], [.int (Int32.ofInt 1), .int xs0, .ref a0], h)) rfl rfl rfl ?_
      refine xle_next (i := .iconst 2) (x' := (61, [(0, .ref a0), (2, .int xv2), (3, .int xs0)], [.int (Int32.ofInt 2), .int (Int32.ofInt 1), .int xs0, .ref a0], h)) rfl rfl rfl ?_
      refine xle_next (i := .iload_n 2) (x' := (62, [(0, .ref a0), (2, .int xv2), (3, .int xs0)], [.int xv2, .int (Int32.ofInt 2), .int (Int32.ofInt 1), .int xs0, .ref a0], h)) rfl rfl rfl ?_
      refine xle_next (i := .iconst 0) (x' := (63, [(0, .ref a0), (2, .int xv2), (3, .int xs0)], [.int (Int32.ofInt 0), .int xv2, .int (Int32.ofInt 2), .int (Int32.ofInt 1), .int xs0, .ref a0], h)) rfl rfl rfl ?_
      refine xle_isO (i := .invokevirtual 114) (bq := a0) (ci := 6) (fo := (f_M_put z [.ref a0, .int xs0, .int (Int32.ofInt 1), .int (Int32.ofInt 2), .int xv2, .int (Int32.ofInt 0)] h).bind (xback 63 [(0, .ref a0), (2, .int xv2), (3, .int xs0)] [])) rfl rfl rfl (fun hs => ?_)
      refine xle_clI (t := []) rfl rfl hs (fun x10 h9 => ?_)
      refine xle_next (i := .pop) (x' := (67, [(0, .ref a0), (2, .int xv2), (3, .int xs0)], [], h9)) rfl rfl rfl ?_
      refine xle_next (i := .iconst 0) (x' := (68, [(0, .ref a0), (2, .int xv2), (3, .int xs0)], [.int (Int32.ofInt 0)], h9)) rfl rfl rfl ?_
      exact xle_end (i := .ireturn) rfl rfl rfl
    · exact xle_jump rfl
noncomputable def D_M_names_55 (z : xzs)  (h : xH) : Option xR :=
  some (.inl (some (.int (Int32.ofInt (-1)))), h)
set_option maxRecDepth 20000 in
theorem E_M_names_55 (z : xzs)  (h : xH) : xle (D_M_names_55 z  h) (B_M_names_55 z  h) := by
  unfold D_M_names_55 B_M_names_55
  refine xle_next (i := .iconst (-1)) (x' := (56, [], [.int (Int32.ofInt (-1))], h)) rfl rfl rfl ?_
  exact xle_end (i := .ireturn) rfl rfl rfl
noncomputable def B_M_free_2 (z : xzs) (a0 : Nat) (xv1 : Int32) (h : xH) : Option xR := xev (K_M_free z) (2, [(0, .ref a0), (1, .int xv1)], [], h)
noncomputable def B_M_free_12 (z : xzs) (a0 : Nat) (xv1 : Int32) (xv2 : Int32) (xv3 : Int32) (h : xH) : Option xR := xev (K_M_free z) (12, [(0, .ref a0), (1, .int xv1), (2, .int xv2), (3, .int xv3)], [], h)
noncomputable def B_M_free_30 (z : xzs) (a0 : Nat) (xv1 : Int32) (xv2 : Int32) (xv3 : Int32) (h : xH) : Option xR := xev (K_M_free z) (30, [(0, .ref a0), (1, .int xv1), (2, .int xv2), (3, .int xv3)], [], h)
noncomputable def D_M_free_0 (z : xzs) (a0 : Nat) (h : xH) : Option xR :=
  B_M_free_2 z a0 (Int32.ofInt 1) h
set_option maxRecDepth 20000 in
theorem E_M_free (z : xzs) (a0 : Nat) (h : xH) : xle (D_M_free_0 z a0 h) (xfun (K_M_free z) 4 [.ref a0] h) := by
  unfold D_M_free_0
  refine xle_entry (Nat.le_of_ble_eq_true rfl) (xal_c (xca_a _) (rfl)) ?_
  show xle _ (xev (K_M_free z) (0, [(0, .ref a0)], [], h))
  refine xle_next (i := .iconst 1) (x' := (1, [(0, .ref a0)], [.int (Int32.ofInt 1)], h)) rfl rfl rfl ?_
  refine xle_next (i := .istore_n 1) (x' := (2, [(0, .ref a0), (1, .int (Int32.ofInt 1))], [], h)) rfl rfl rfl ?_
  exact xle_jump rfl
noncomputable def D_M_free_2 (z : xzs) (a0 : Nat) (xv1 : Int32) (h : xH) : Option xR :=
  if ((Int8.ofInt 7).toInt32) ≤ xv1 then
    some (.inl (some (.int (Int32.ofInt 0))), h)
  else
    B_M_free_12 z a0 xv1 (Int32.ofInt 0) (Int32.ofInt 0) h
set_option maxRecDepth 20000 in
theorem E_M_free_2 (z : xzs) (a0 : Nat) (xv1 : Int32) (h : xH) : xle (D_M_free_2 z a0 xv1 h) (B_M_free_2 z a0 xv1 h) := by
  unfold D_M_free_2 B_M_free_2
  refine xle_next (i := .iload_n 1) (x' := (3, [(0, .ref a0), (1, .int xv1)], [.int xv1], h)) rfl rfl rfl ?_
  refine xle_next (i := .bipush 7) (x' := (5, [(0, .ref a0), (1, .int xv1)], [.int ((Int8.ofInt 7).toInt32), .int xv1], h)) rfl rfl rfl ?_
  refine xle_icmp (cd := .ge) (q := 48) rfl rfl rfl xc_ge (fun _ => ?_) (fun _ => ?_)
  · refine xle_next (i := .iconst 0) (x' := (49, [(0, .ref a0), (1, .int xv1)], [.int (Int32.ofInt 0)], h)) rfl rfl rfl ?_
    exact xle_end (i := .ireturn) rfl rfl rfl
  · refine xle_next (i := .iconst 0) (x' := (9, [(0, .ref a0), (1, .int xv1)], [.int (Int32.ofInt 0)], h)) rfl rfl rfl ?_
    refine xle_next (i := .istore_n 2) (x' := (10, [(0, .ref a0), (1, .int xv1), (2, .int (Int32.ofInt 0))], [], h)) rfl rfl rfl ?_
    refine xle_next (i := .iconst 0) (x' := (11, [(0, .ref a0), (1, .int xv1), (2, .int (Int32.ofInt 0))], [.int (Int32.ofInt 0)], h)) rfl rfl rfl ?_
    refine xle_next (i := .istore_n 3) (x' := (12, [(0, .ref a0), (1, .int xv1), (2, .int (Int32.ofInt 0)), (3, .int (Int32.ofInt 0))], [], h)) rfl rfl rfl ?_
    exact xle_jump rfl
noncomputable def D_M_free_12 (z : xzs) (a0 : Nat) (xv1 : Int32) (xv2 : Int32) (xv3 : Int32) (h : xH) : Option xR :=
  if ((Int8.ofInt 16).toInt32) ≤ xv3 then
    if ¬ xv2 = 0 then
      B_M_free_2 z a0 (xv1 + Int32.ofInt 1) h
    else
      some (.inl (some (.int xv1)), h)
  else
    (rdR h a0 6 34).bind fun r1 =>
    r1.bind fun a2 =>
    (rdA 0 h a2 xv3).bind fun x3 =>
    if ¬ x3 = xv1 then
      B_M_free_30 z a0 xv1 xv2 xv3 h
    else
      B_M_free_30 z a0 xv1 (Int32.ofInt 1) xv3 h
set_option maxRecDepth 20000 in
theorem E_M_free_12 (z : xzs) (a0 : Nat) (xv1 : Int32) (xv2 : Int32) (xv3 : Int32) (h : xH) : xle (D_M_free_12 z a0 xv1 xv2 xv3 h) (B_M_free_12 z a0 xv1 xv2 xv3 h) := by
  unfold D_M_free_12 B_M_free_12
  refine xle_next (i := .iload_n 3) (x' := (13, [(0, .ref a0), (1, .int xv1), (2, .int xv2), (3, .int xv3)], [.int xv3], h)) rfl rfl rfl ?_
  refine xle_next (i := .bipush 16) (x' := (15, [(0, .ref a0), (1, .int xv1), (2, .int xv2), (3, .int xv3)], [.int ((Int8.ofInt 16).toInt32), .int xv3], h)) rfl rfl rfl ?_
  refine xle_icmp (cd := .ge) (q := 36) rfl rfl rfl xc_ge (fun _ => ?_) (fun _ => ?_)
  · refine xle_next (i := .iload_n 2) (x' := (37, [(0, .ref a0), (1, .int xv1), (2, .int xv2), (3, .int xv3)], [.int xv2], h)) rfl rfl rfl ?_
    refine xle_if (cd := .ne) (q := 42) rfl rfl rfl xc_ne (fun _ => ?_) (fun _ => ?_)
    · refine xle_next (i := .iinc 1 1) (x' := (45, [(0, .ref a0), (1, .int (xv1 + Int32.ofInt 1)), (2, .int xv2), (3, .int xv3)], [], h)) rfl rfl rfl ?_
      refine xle_next (i := .goto (-43)) (x' := (2, [(0, .ref a0), (1, .int (xv1 + Int32.ofInt 1)), (2, .int xv2), (3, .int xv3)], [], h)) rfl rfl rfl ?_
      exact xle_jump rfl
    · refine xle_next (i := .iload_n 1) (x' := (41, [(0, .ref a0), (1, .int xv1), (2, .int xv2), (3, .int xv3)], [.int xv1], h)) rfl rfl rfl ?_
      exact xle_end (i := .ireturn) rfl rfl rfl
  · refine xle_next (i := .aload_n 0) (x' := (19, [(0, .ref a0), (1, .int xv1), (2, .int xv2), (3, .int xv3)], [.ref a0], h)) rfl rfl rfl ?_
    refine xle_getR (f := (6, 34, .array .int, 0)) rfl rfl rfl (fun r1 => ?_)
    refine xle_next (i := .iload_n 3) (x' := (23, [(0, .ref a0), (1, .int xv1), (2, .int xv2), (3, .int xv3)], [.int xv3, va_rf r1], h)) rfl rfl rfl ?_
    refine xle_some (fun r_ => (23, [(0, .ref a0), (1, .int xv1), (2, .int xv2), (3, .int xv3)], [.int xv3, va_rf r_], h)) (fun a2 => ?_)
    refine xle_iald rfl rfl (fun x3 => ?_)
    refine xle_next (i := .iload_n 1) (x' := (25, [(0, .ref a0), (1, .int xv1), (2, .int xv2), (3, .int xv3)], [.int xv1, .int x3], h)) rfl rfl rfl ?_
    refine xle_icmp (cd := .ne) (q := 30) rfl rfl rfl xc_ne (fun _ => ?_) (fun _ => ?_)
    · exact xle_jump rfl
    · refine xle_next (i := .iconst 1) (x' := (29, [(0, .ref a0), (1, .int xv1), (2, .int xv2), (3, .int xv3)], [.int (Int32.ofInt 1)], h)) rfl rfl rfl ?_
      refine xle_next (i := .istore_n 2) (x' := (30, [(0, .ref a0), (1, .int xv1), (2, .int (Int32.ofInt 1)), (3, .int xv3)], [], h)) rfl rfl rfl ?_
      exact xle_jump rfl
noncomputable def D_M_free_30 (z : xzs) (a0 : Nat) (xv1 : Int32) (xv2 : Int32) (xv3 : Int32) (h : xH) : Option xR :=
  B_M_free_12 z a0 xv1 xv2 (xv3 + Int32.ofInt 1) h
set_option maxRecDepth 20000 in
theorem E_M_free_30 (z : xzs) (a0 : Nat) (xv1 : Int32) (xv2 : Int32) (xv3 : Int32) (h : xH) : xle (D_M_free_30 z a0 xv1 xv2 xv3 h) (B_M_free_30 z a0 xv1 xv2 xv3 h) := by
  unfold D_M_free_30 B_M_free_30
  refine xle_next (i := .iinc 3 1) (x' := (33, [(0, .ref a0), (1, .int xv1), (2, .int xv2), (3, .int (xv3 + Int32.ofInt 1))], [], h)) rfl rfl rfl ?_
  refine xle_next (i := .goto (-21)) (x' := (12, [(0, .ref a0), (1, .int xv1), (2, .int xv2), (3, .int (xv3 + Int32.ofInt 1))], [], h)) rfl rfl rfl ?_
  exact xle_jump rfl
noncomputable def B_M_files_42 (z : xzs)  (h : xH) : Option xR := xev (K_M_files z) (42, [], [], h)
noncomputable def B_M_files_39 (z : xzs) (a0 : Nat) (xv2 : Int32) (xv3 : Int32) (xv4 : Int32) (xs0 : Int32) (xs1 : Int32) (h : xH) : Option xR := xev (K_M_files z) (39, [(0, .ref a0), (2, .int xv2), (3, .int xv3), (4, .int xv4)], [.int xs0, .int xs1], h)
noncomputable def B_M_files_64 (z : xzs) (a0 : Nat) (xv3 : Int32) (xv4 : Int32) (xs0 : Int32) (xs1 : Int32) (h : xH) : Option xR := xev (K_M_files z) (64, [(0, .ref a0), (3, .int xv3), (4, .int xv4)], [.int xs0, .int xs1], h)
noncomputable def B_M_files_247 (z : xzs) (a0 : Nat) (xv3 : Int32) (xv4 : Int32) (xv5 : Int32) (h : xH) : Option xR := xev (K_M_files z) (247, [(0, .ref a0), (3, .int xv3), (4, .int xv4), (5, .int xv5)], [], h)
noncomputable def B_M_files_212 (z : xzs) (a0 : Nat) (xv3 : Int32) (xv4 : Int32) (xv5 : Int32) (xv6 : Int32) (h : xH) : Option xR := xev (K_M_files z) (212, [(0, .ref a0), (3, .int xv3), (4, .int xv4), (5, .int xv5), (6, .int xv6)], [], h)
noncomputable def B_M_files_126 (z : xzs) (a0 : Nat) (xv4 : Int32) (xv5 : Int32) (h : xH) : Option xR := xev (K_M_files z) (126, [(0, .ref a0), (4, .int xv4), (5, .int xv5)], [], h)
noncomputable def B_M_files_100 (z : xzs) (xs0 : Int32) (h : xH) : Option xR := xev (K_M_files z) (100, [], [.int xs0], h)
noncomputable def B_M_files_164 (z : xzs) (xs0 : Int32) (h : xH) : Option xR := xev (K_M_files z) (164, [], [.int xs0], h)
noncomputable def D_M_files_0 (z : xzs) (a0 : Nat) (p1 : Int32) (p2 : Int32) (h : xH) : Option xR :=
  if p1 < 0 then
    B_M_files_42 z h
  else
    xclI (f_M_within z [.int (p1 / ((Int8.ofInt 100).toInt32)), .int (Int32.ofInt 2), .int ((Int8.ofInt 13).toInt32)] h) fun x2 h1 =>
    if x2 = 0 then
      B_M_files_42 z h1
    else
      if ¬ (p1 / ((Int8.ofInt 100).toInt32)) = ((Int8.ofInt 13).toInt32) then
        B_M_files_39 z a0 p2 (p1 / ((Int8.ofInt 100).toInt32)) (p1 - p1 / ((Int8.ofInt 100).toInt32) * ((Int8.ofInt 100).toInt32)) ((Int8.ofInt 31).toInt32) (p1 - p1 / ((Int8.ofInt 100).toInt32) * ((Int8.ofInt 100).toInt32)) h1
      else
        B_M_files_39 z a0 p2 (p1 / ((Int8.ofInt 100).toInt32)) (p1 - p1 / ((Int8.ofInt 100).toInt32) * ((Int8.ofInt 100).toInt32)) (Int32.ofInt 3) (p1 - p1 / ((Int8.ofInt 100).toInt32) * ((Int8.ofInt 100).toInt32)) h1
set_option maxRecDepth 20000 in
theorem E_M_files (z : xzs) (a0 : Nat) (p1 : Int32) (p2 : Int32) (h : xH) : xle (D_M_files_0 z a0 p1 p2 h) (xfun (K_M_files z) 7 [.ref a0, .int p1, .int p2] h) := by
  unfold D_M_files_0
  refine xle_entry (Nat.le_of_ble_eq_true rfl) (xal_c (xca_a _) (xal_c (xca_i _) (xal_c (xca_i _) (rfl)))) ?_
  show xle _ (xev (K_M_files z) (0, [(0, .ref a0), (1, .int p1), (2, .int p2)], [], h))
  refine xle_next (i := .iload_n 1) (x' := (1, [(0, .ref a0), (1, .int p1), (2, .int p2)], [.int p1], h)) rfl rfl rfl ?_
  refine xle_next (i := .bipush 100) (x' := (3, [(0, .ref a0), (1, .int p1), (2, .int p2)], [.int ((Int8.ofInt 100).toInt32), .int p1], h)) rfl rfl rfl ?_
  refine xle_next (i := .idiv) (x' := (4, [(0, .ref a0), (1, .int p1), (2, .int p2)], [.int (p1 / ((Int8.ofInt 100).toInt32))], h)) rfl rfl rfl ?_
  refine xle_next (i := .istore_n 3) (x' := (5, [(0, .ref a0), (1, .int p1), (2, .int p2), (3, .int (p1 / ((Int8.ofInt 100).toInt32)))], [], h)) rfl rfl rfl ?_
  refine xle_next (i := .iload_n 1) (x' := (6, [(0, .ref a0), (1, .int p1), (2, .int p2), (3, .int (p1 / ((Int8.ofInt 100).toInt32)))], [.int p1], h)) rfl rfl rfl ?_
  refine xle_next (i := .bipush 100) (x' := (8, [(0, .ref a0), (1, .int p1), (2, .int p2), (3, .int (p1 / ((Int8.ofInt 100).toInt32)))], [.int ((Int8.ofInt 100).toInt32), .int p1], h)) rfl rfl rfl ?_
  refine xle_next (i := .irem) (x' := (9, [(0, .ref a0), (1, .int p1), (2, .int p2), (3, .int (p1 / ((Int8.ofInt 100).toInt32)))], [.int (p1 - p1 / ((Int8.ofInt 100).toInt32) * ((Int8.ofInt 100).toInt32))], h)) rfl rfl rfl ?_
  refine xle_next (i := .istore 4) (x' := (11, [(0, .ref a0), (1, .int p1), (2, .int p2), (3, .int (p1 / ((Int8.ofInt 100).toInt32))), (4, .int (p1 - p1 / ((Int8.ofInt 100).toInt32) * ((Int8.ofInt 100).toInt32)))], [], h)) rfl rfl rfl ?_
  refine xle_next (i := .iload_n 1) (x' := (12, [(0, .ref a0), (1, .int p1), (2, .int p2), (3, .int (p1 / ((Int8.ofInt 100).toInt32))), (4, .int (p1 - p1 / ((Int8.ofInt 100).toInt32) * ((Int8.ofInt 100).toInt32)))], [.int p1], h)) rfl rfl rfl ?_
  refine xle_if (cd := .lt) (q := 42) rfl rfl rfl xc_lt (fun _ => ?_) (fun _ => ?_)
  · exact xle_jump rfl
  · refine xle_next (i := .iload_n 3) (x' := (16, [(0, .ref a0), (1, .int p1), (2, .int p2), (3, .int (p1 / ((Int8.ofInt 100).toInt32))), (4, .int (p1 - p1 / ((Int8.ofInt 100).toInt32) * ((Int8.ofInt 100).toInt32)))], [.int (p1 / ((Int8.ofInt 100).toInt32))], h)) rfl rfl rfl ?_
    refine xle_next (i := .iconst 2) (x' := (17, [(0, .ref a0), (1, .int p1), (2, .int p2), (3, .int (p1 / ((Int8.ofInt 100).toInt32))), (4, .int (p1 - p1 / ((Int8.ofInt 100).toInt32) * ((Int8.ofInt 100).toInt32)))], [.int (Int32.ofInt 2), .int (p1 / ((Int8.ofInt 100).toInt32))], h)) rfl rfl rfl ?_
    refine xle_next (i := .bipush 13) (x' := (19, [(0, .ref a0), (1, .int p1), (2, .int p2), (3, .int (p1 / ((Int8.ofInt 100).toInt32))), (4, .int (p1 - p1 / ((Int8.ofInt 100).toInt32) * ((Int8.ofInt 100).toInt32)))], [.int ((Int8.ofInt 13).toInt32), .int (Int32.ofInt 2), .int (p1 / ((Int8.ofInt 100).toInt32))], h)) rfl rfl rfl ?_
    refine xle_clI (i := .invokestatic 169) (fo := f_M_within z [.int (p1 / ((Int8.ofInt 100).toInt32)), .int (Int32.ofInt 2), .int ((Int8.ofInt 13).toInt32)] h) (t := []) rfl rfl rfl (fun x2 h1 => ?_)
    refine xle_if (cd := .eq) (q := 42) rfl rfl rfl xc_eq (fun _ => ?_) (fun _ => ?_)
    · exact xle_jump rfl
    · refine xle_next (i := .iload 4) (x' := (27, [(0, .ref a0), (1, .int p1), (2, .int p2), (3, .int (p1 / ((Int8.ofInt 100).toInt32))), (4, .int (p1 - p1 / ((Int8.ofInt 100).toInt32) * ((Int8.ofInt 100).toInt32)))], [.int (p1 - p1 / ((Int8.ofInt 100).toInt32) * ((Int8.ofInt 100).toInt32))], h1)) rfl rfl rfl ?_
      refine xle_next (i := .iload_n 3) (x' := (28, [(0, .ref a0), (1, .int p1), (2, .int p2), (3, .int (p1 / ((Int8.ofInt 100).toInt32))), (4, .int (p1 - p1 / ((Int8.ofInt 100).toInt32) * ((Int8.ofInt 100).toInt32)))], [.int (p1 / ((Int8.ofInt 100).toInt32)), .int (p1 - p1 / ((Int8.ofInt 100).toInt32) * ((Int8.ofInt 100).toInt32))], h1)) rfl rfl rfl ?_
      refine xle_next (i := .bipush 13) (x' := (30, [(0, .ref a0), (1, .int p1), (2, .int p2), (3, .int (p1 / ((Int8.ofInt 100).toInt32))), (4, .int (p1 - p1 / ((Int8.ofInt 100).toInt32) * ((Int8.ofInt 100).toInt32)))], [.int ((Int8.ofInt 13).toInt32), .int (p1 / ((Int8.ofInt 100).toInt32)), .int (p1 - p1 / ((Int8.ofInt 100).toInt32) * ((Int8.ofInt 100).toInt32))], h1)) rfl rfl rfl ?_
      refine xle_icmp (cd := .ne) (q := 37) rfl rfl rfl xc_ne (fun _ => ?_) (fun _ => ?_)
      · refine xle_next (i := .bipush 31) (x' := (39, [(0, .ref a0), (1, .int p1), (2, .int p2), (3, .int (p1 / ((Int8.ofInt 100).toInt32))), (4, .int (p1 - p1 / ((Int8.ofInt 100).toInt32) * ((Int8.ofInt 100).toInt32)))], [.int ((Int8.ofInt 31).toInt32), .int (p1 - p1 / ((Int8.ofInt 100).toInt32) * ((Int8.ofInt 100).toInt32))], h1)) rfl rfl rfl ?_
        exact xle_jump rfl
      · refine xle_next (i := .iconst 3) (x' := (34, [(0, .ref a0), (1, .int p1), (2, .int p2), (3, .int (p1 / ((Int8.ofInt 100).toInt32))), (4, .int (p1 - p1 / ((Int8.ofInt 100).toInt32) * ((Int8.ofInt 100).toInt32)))], [.int (Int32.ofInt 3), .int (p1 - p1 / ((Int8.ofInt 100).toInt32) * ((Int8.ofInt 100).toInt32))], h1)) rfl rfl rfl ?_
        refine xle_next (i := .goto 5) (x' := (39, [(0, .ref a0), (1, .int p1), (2, .int p2), (3, .int (p1 / ((Int8.ofInt 100).toInt32))), (4, .int (p1 - p1 / ((Int8.ofInt 100).toInt32) * ((Int8.ofInt 100).toInt32)))], [.int (Int32.ofInt 3), .int (p1 - p1 / ((Int8.ofInt 100).toInt32) * ((Int8.ofInt 100).toInt32))], h1)) rfl rfl rfl ?_
        exact xle_jump rfl
noncomputable def D_M_files_42 (z : xzs)  (h : xH) : Option xR :=
  some (.inl (some (.int ((Int8.ofInt (-2)).toInt32))), h)
set_option maxRecDepth 20000 in
theorem E_M_files_42 (z : xzs)  (h : xH) : xle (D_M_files_42 z  h) (B_M_files_42 z  h) := by
  unfold D_M_files_42 B_M_files_42
  refine xle_next (i := .bipush (-2)) (x' := (44, [], [.int ((Int8.ofInt (-2)).toInt32)], h)) rfl rfl rfl ?_
  exact xle_end (i := .ireturn) rfl rfl rfl
noncomputable def D_M_files_39 (z : xzs) (a0 : Nat) (xv2 : Int32) (xv3 : Int32) (xv4 : Int32) (xs0 : Int32) (xs1 : Int32) (h : xH) : Option xR :=
  if xs1 ≤ xs0 then
    if ¬ xv3 = ((Int8.ofInt 13).toInt32) then
      B_M_files_64 z a0 xv3 xv4 (xv4 / ((Int8.ofInt 8).toInt32)) ((Int32.ofInt 4) * xv2) h
    else
      B_M_files_64 z a0 xv3 xv4 xv4 ((Int32.ofInt 4) * xv2) h
  else
    B_M_files_42 z h
set_option maxRecDepth 20000 in
theorem E_M_files_39 (z : xzs) (a0 : Nat) (xv2 : Int32) (xv3 : Int32) (xv4 : Int32) (xs0 : Int32) (xs1 : Int32) (h : xH) : xle (D_M_files_39 z a0 xv2 xv3 xv4 xs0 xs1 h) (B_M_files_39 z a0 xv2 xv3 xv4 xs0 xs1 h) := by
  unfold D_M_files_39 B_M_files_39
  refine xle_icmp (cd := .le) (q := 45) rfl rfl rfl xc_le (fun _ => ?_) (fun _ => ?_)
  · refine xle_next (i := .iconst 4) (x' := (46, [(0, .ref a0), (2, .int xv2), (3, .int xv3), (4, .int xv4)], [.int (Int32.ofInt 4)], h)) rfl rfl rfl ?_
    refine xle_next (i := .iload_n 2) (x' := (47, [(0, .ref a0), (2, .int xv2), (3, .int xv3), (4, .int xv4)], [.int xv2, .int (Int32.ofInt 4)], h)) rfl rfl rfl ?_
    refine xle_next (i := .imul) (x' := (48, [(0, .ref a0), (2, .int xv2), (3, .int xv3), (4, .int xv4)], [.int ((Int32.ofInt 4) * xv2)], h)) rfl rfl rfl ?_
    refine xle_next (i := .iload_n 3) (x' := (49, [(0, .ref a0), (2, .int xv2), (3, .int xv3), (4, .int xv4)], [.int xv3, .int ((Int32.ofInt 4) * xv2)], h)) rfl rfl rfl ?_
    refine xle_next (i := .bipush 13) (x' := (51, [(0, .ref a0), (2, .int xv2), (3, .int xv3), (4, .int xv4)], [.int ((Int8.ofInt 13).toInt32), .int xv3, .int ((Int32.ofInt 4) * xv2)], h)) rfl rfl rfl ?_
    refine xle_icmp (cd := .ne) (q := 59) rfl rfl rfl xc_ne (fun _ => ?_) (fun _ => ?_)
    · refine xle_next (i := .iload 4) (x' := (61, [(0, .ref a0), (2, .int xv2), (3, .int xv3), (4, .int xv4)], [.int xv4, .int ((Int32.ofInt 4) * xv2)], h)) rfl rfl rfl ?_
      refine xle_next (i := .bipush 8) (x' := (63, [(0, .ref a0), (2, .int xv2), (3, .int xv3), (4, .int xv4)], [.int ((Int8.ofInt 8).toInt32), .int xv4, .int ((Int32.ofInt 4) * xv2)], h)) rfl rfl rfl ?_
      refine xle_next (i := .idiv) (x' := (64, [(0, .ref a0), (2, .int xv2), (3, .int xv3), (4, .int xv4)], [.int (xv4 / ((Int8.ofInt 8).toInt32)), .int ((Int32.ofInt 4) * xv2)], h)) rfl rfl rfl ?_
      exact xle_jump rfl
    · refine xle_next (i := .iload 4) (x' := (56, [(0, .ref a0), (2, .int xv2), (3, .int xv3), (4, .int xv4)], [.int xv4, .int ((Int32.ofInt 4) * xv2)], h)) rfl rfl rfl ?_
      refine xle_next (i := .goto 8) (x' := (64, [(0, .ref a0), (2, .int xv2), (3, .int xv3), (4, .int xv4)], [.int xv4, .int ((Int32.ofInt 4) * xv2)], h)) rfl rfl rfl ?_
      exact xle_jump rfl
  · exact xle_jump rfl
noncomputable def D_M_files_64 (z : xzs) (a0 : Nat) (xv3 : Int32) (xv4 : Int32) (xs0 : Int32) (xs1 : Int32) (h : xH) : Option xR :=
  if ¬ xv3 = ((Int8.ofInt 13).toInt32) then
    if ¬ xv3 = (Int32.ofInt 2) then
      (rdR h a0 6 34).bind fun r3 =>
      r3.bind fun a4 =>
      (rdA 0 h a4 (xs1 + xs0)).bind fun x5 =>
      if ¬ x5 = 0 then
        B_M_files_247 z a0 xv3 xv4 (xs1 + xs0) h
      else
        (rdR h a0 6 34).bind fun r6 =>
        (xisO h a0 6).bind fun _ => xclI (f_M_free z [.ref a0] h) fun x8 h7 =>
        r6.bind fun a9 =>
        (wrI h7 a9 (xs1 + xs0) x8).bind fun h10 =>
        (rdR h10 a0 6 34).bind fun r11 =>
        r11.bind fun a12 =>
        (rdA 0 h10 a12 (xs1 + xs0)).bind fun x13 =>
        if ¬ x13 = 0 then
          (rdI h10 a0 6 37).bind fun x14 =>
          (xwr h10 a0 6 37 (.int (x14 + (Int32.ofInt 1)))).bind fun h15 =>
          B_M_files_212 z a0 xv3 xv4 (xs1 + xs0) (Int32.ofInt 0) h15
        else
          some (.inl (some (.int ((Int8.ofInt (-3)).toInt32))), h10)
    else
      (rdR h a0 6 34).bind fun r16 =>
      r16.bind fun a17 =>
      (rdA 0 h a17 (xs1 + xs0)).bind fun x18 =>
      if x18 ≤ 0 then
        B_M_files_126 z a0 xv4 (xs1 + xs0) h
      else
        (rdI h a0 6 36).bind fun x19 =>
        (xwr h a0 6 36 (.int (x19 + (Int32.ofInt 1)))).bind fun h20 =>
        B_M_files_126 z a0 xv4 (xs1 + xs0) h20
  else
    (rdR h a0 6 34).bind fun r21 =>
    r21.bind fun a22 =>
    (rdA 0 h a22 (xs1 + xs0)).bind fun x23 =>
    (rdR h a0 6 34).bind fun r24 =>
    r24.bind fun a25 =>
    (wrI h a25 (xs1 + xs0) (Int32.ofInt 0)).bind fun h26 =>
    if x23 ≤ 0 then
      B_M_files_100 z (Int32.ofInt (-1)) h26
    else
      B_M_files_100 z (Int32.ofInt 0) h26
set_option maxRecDepth 20000 in
theorem E_M_files_64 (z : xzs) (a0 : Nat) (xv3 : Int32) (xv4 : Int32) (xs0 : Int32) (xs1 : Int32) (h : xH) : xle (D_M_files_64 z a0 xv3 xv4 xs0 xs1 h) (B_M_files_64 z a0 xv3 xv4 xs0 xs1 h) := by
  unfold D_M_files_64 B_M_files_64
  refine xle_next (i := .iadd) (x' := (65, [(0, .ref a0), (3, .int xv3), (4, .int xv4)], [.int (xs1 + xs0)], h)) rfl rfl rfl ?_
  refine xle_next (i := .istore 5) (x' := (67, [(0, .ref a0), (3, .int xv3), (4, .int xv4), (5, .int (xs1 + xs0))], [], h)) rfl rfl rfl ?_
  refine xle_next (i := .iload_n 3) (x' := (68, [(0, .ref a0), (3, .int xv3), (4, .int xv4), (5, .int (xs1 + xs0))], [.int xv3], h)) rfl rfl rfl ?_
  refine xle_next (i := .bipush 13) (x' := (70, [(0, .ref a0), (3, .int xv3), (4, .int xv4), (5, .int (xs1 + xs0))], [.int ((Int8.ofInt 13).toInt32), .int xv3], h)) rfl rfl rfl ?_
  refine xle_icmp (cd := .ne) (q := 101) rfl rfl rfl xc_ne (fun _ => ?_) (fun _ => ?_)
  · refine xle_next (i := .iload_n 3) (x' := (102, [(0, .ref a0), (3, .int xv3), (4, .int xv4), (5, .int (xs1 + xs0))], [.int xv3], h)) rfl rfl rfl ?_
    refine xle_next (i := .iconst 2) (x' := (103, [(0, .ref a0), (3, .int xv3), (4, .int xv4), (5, .int (xs1 + xs0))], [.int (Int32.ofInt 2), .int xv3], h)) rfl rfl rfl ?_
    refine xle_icmp (cd := .ne) (q := 165) rfl rfl rfl xc_ne (fun _ => ?_) (fun _ => ?_)
    · refine xle_next (i := .aload_n 0) (x' := (166, [(0, .ref a0), (3, .int xv3), (4, .int xv4), (5, .int (xs1 + xs0))], [.ref a0], h)) rfl rfl rfl ?_
      refine xle_getR (f := (6, 34, .array .int, 0)) rfl rfl rfl (fun r3 => ?_)
      refine xle_next (i := .iload 5) (x' := (171, [(0, .ref a0), (3, .int xv3), (4, .int xv4), (5, .int (xs1 + xs0))], [.int (xs1 + xs0), va_rf r3], h)) rfl rfl rfl ?_
      refine xle_some (fun r_ => (171, [(0, .ref a0), (3, .int xv3), (4, .int xv4), (5, .int (xs1 + xs0))], [.int (xs1 + xs0), va_rf r_], h)) (fun a4 => ?_)
      refine xle_iald rfl rfl (fun x5 => ?_)
      refine xle_if (cd := .ne) (q := 247) rfl rfl rfl xc_ne (fun _ => ?_) (fun _ => ?_)
      · exact xle_jump rfl
      · refine xle_next (i := .aload_n 0) (x' := (176, [(0, .ref a0), (3, .int xv3), (4, .int xv4), (5, .int (xs1 + xs0))], [.ref a0], h)) rfl rfl rfl ?_
        refine xle_getR (f := (6, 34, .array .int, 0)) rfl rfl rfl (fun r6 => ?_)
        refine xle_next (i := .iload 5) (x' := (181, [(0, .ref a0), (3, .int xv3), (4, .int xv4), (5, .int (xs1 + xs0))], [.int (xs1 + xs0), va_rf r6], h)) rfl rfl rfl ?_
        refine xle_next (i := .aload_n 0) (x' := (182, [(0, .ref a0), (3, .int xv3), (4, .int xv4), (5, .int (xs1 + xs0))], [.ref a0, .int (xs1 + xs0), va_rf r6], h)) rfl rfl rfl ?_
        refine xle_isO (i := .invokevirtual 229) (bq := a0) (ci := 6) (fo := (f_M_free z [.ref a0] h).bind (xback 182 [(0, .ref a0), (3, .int xv3), (4, .int xv4), (5, .int (xs1 + xs0))] [.int (xs1 + xs0), va_rf r6])) rfl rfl rfl (fun hs => ?_)
        refine xle_clI (t := [.int (xs1 + xs0), va_rf r6]) rfl rfl hs (fun x8 h7 => ?_)
        refine xle_some (fun r_ => (185, [(0, .ref a0), (3, .int xv3), (4, .int xv4), (5, .int (xs1 + xs0))], [.int x8, .int (xs1 + xs0), va_rf r_], h7)) (fun a9 => ?_)
        refine xle_iast rfl rfl (fun h10 => ?_)
        refine xle_next (i := .aload_n 0) (x' := (187, [(0, .ref a0), (3, .int xv3), (4, .int xv4), (5, .int (xs1 + xs0))], [.ref a0], h10)) rfl rfl rfl ?_
        refine xle_getR (f := (6, 34, .array .int, 0)) rfl rfl rfl (fun r11 => ?_)
        refine xle_next (i := .iload 5) (x' := (192, [(0, .ref a0), (3, .int xv3), (4, .int xv4), (5, .int (xs1 + xs0))], [.int (xs1 + xs0), va_rf r11], h10)) rfl rfl rfl ?_
        refine xle_some (fun r_ => (192, [(0, .ref a0), (3, .int xv3), (4, .int xv4), (5, .int (xs1 + xs0))], [.int (xs1 + xs0), va_rf r_], h10)) (fun a12 => ?_)
        refine xle_iald rfl rfl (fun x13 => ?_)
        refine xle_if (cd := .ne) (q := 199) rfl rfl rfl xc_ne (fun _ => ?_) (fun _ => ?_)
        · refine xle_next (i := .aload_n 0) (x' := (200, [(0, .ref a0), (3, .int xv3), (4, .int xv4), (5, .int (xs1 + xs0))], [.ref a0], h10)) rfl rfl rfl ?_
          refine xle_next (i := .dup) (x' := (201, [(0, .ref a0), (3, .int xv3), (4, .int xv4), (5, .int (xs1 + xs0))], [.ref a0, .ref a0], h10)) rfl rfl rfl ?_
          refine xle_getI (f := (6, 37, .int, 1)) rfl rfl rfl (fun x14 => ?_)
          refine xle_next (i := .iconst 1) (x' := (205, [(0, .ref a0), (3, .int xv3), (4, .int xv4), (5, .int (xs1 + xs0))], [.int (Int32.ofInt 1), .int x14, .ref a0], h10)) rfl rfl rfl ?_
          refine xle_next (i := .iadd) (x' := (206, [(0, .ref a0), (3, .int xv3), (4, .int xv4), (5, .int (xs1 + xs0))], [.int (x14 + (Int32.ofInt 1)), .ref a0], h10)) rfl rfl rfl ?_
          refine xle_put (v := .int (x14 + (Int32.ofInt 1))) (f := (6, 37, .int, 1)) rfl rfl rfl ⟨by decide, rfl, rfl⟩ (fun h15 => ?_)
          refine xle_next (i := .iconst 0) (x' := (210, [(0, .ref a0), (3, .int xv3), (4, .int xv4), (5, .int (xs1 + xs0))], [.int (Int32.ofInt 0)], h15)) rfl rfl rfl ?_
          refine xle_next (i := .istore 6) (x' := (212, [(0, .ref a0), (3, .int xv3), (4, .int xv4), (5, .int (xs1 + xs0)), (6, .int (Int32.ofInt 0))], [], h15)) rfl rfl rfl ?_
          exact xle_jump rfl
        · refine xle_next (i := .bipush (-3)) (x' := (198, [(0, .ref a0), (3, .int xv3), (4, .int xv4), (5, .int (xs1 + xs0))], [.int ((Int8.ofInt (-3)).toInt32)], h10)) rfl rfl rfl ?_
          exact xle_end (i := .ireturn) rfl rfl rfl
    · refine xle_next (i := .aload_n 0) (x' := (107, [(0, .ref a0), (3, .int xv3), (4, .int xv4), (5, .int (xs1 + xs0))], [.ref a0], h)) rfl rfl rfl ?_
      refine xle_getR (f := (6, 34, .array .int, 0)) rfl rfl rfl (fun r16 => ?_)
      refine xle_next (i := .iload 5) (x' := (112, [(0, .ref a0), (3, .int xv3), (4, .int xv4), (5, .int (xs1 + xs0))], [.int (xs1 + xs0), va_rf r16], h)) rfl rfl rfl ?_
      refine xle_some (fun r_ => (112, [(0, .ref a0), (3, .int xv3), (4, .int xv4), (5, .int (xs1 + xs0))], [.int (xs1 + xs0), va_rf r_], h)) (fun a17 => ?_)
      refine xle_iald rfl rfl (fun x18 => ?_)
      refine xle_if (cd := .le) (q := 126) rfl rfl rfl xc_le (fun _ => ?_) (fun _ => ?_)
      · exact xle_jump rfl
      · refine xle_next (i := .aload_n 0) (x' := (117, [(0, .ref a0), (3, .int xv3), (4, .int xv4), (5, .int (xs1 + xs0))], [.ref a0], h)) rfl rfl rfl ?_
        refine xle_next (i := .dup) (x' := (118, [(0, .ref a0), (3, .int xv3), (4, .int xv4), (5, .int (xs1 + xs0))], [.ref a0, .ref a0], h)) rfl rfl rfl ?_
        refine xle_getI (f := (6, 36, .int, 1)) rfl rfl rfl (fun x19 => ?_)
        refine xle_next (i := .iconst 1) (x' := (122, [(0, .ref a0), (3, .int xv3), (4, .int xv4), (5, .int (xs1 + xs0))], [.int (Int32.ofInt 1), .int x19, .ref a0], h)) rfl rfl rfl ?_
        refine xle_next (i := .iadd) (x' := (123, [(0, .ref a0), (3, .int xv3), (4, .int xv4), (5, .int (xs1 + xs0))], [.int (x19 + (Int32.ofInt 1)), .ref a0], h)) rfl rfl rfl ?_
        refine xle_put (v := .int (x19 + (Int32.ofInt 1))) (f := (6, 36, .int, 1)) rfl rfl rfl ⟨by decide, rfl, rfl⟩ (fun h20 => ?_)
        exact xle_jump rfl
  · refine xle_next (i := .aload_n 0) (x' := (74, [(0, .ref a0), (3, .int xv3), (4, .int xv4), (5, .int (xs1 + xs0))], [.ref a0], h)) rfl rfl rfl ?_
    refine xle_getR (f := (6, 34, .array .int, 0)) rfl rfl rfl (fun r21 => ?_)
    refine xle_next (i := .iload 5) (x' := (79, [(0, .ref a0), (3, .int xv3), (4, .int xv4), (5, .int (xs1 + xs0))], [.int (xs1 + xs0), va_rf r21], h)) rfl rfl rfl ?_
    refine xle_some (fun r_ => (79, [(0, .ref a0), (3, .int xv3), (4, .int xv4), (5, .int (xs1 + xs0))], [.int (xs1 + xs0), va_rf r_], h)) (fun a22 => ?_)
    refine xle_iald rfl rfl (fun x23 => ?_)
    refine xle_next (i := .istore 6) (x' := (82, [(0, .ref a0), (3, .int xv3), (4, .int xv4), (5, .int (xs1 + xs0)), (6, .int x23)], [], h)) rfl rfl rfl ?_
    refine xle_next (i := .aload_n 0) (x' := (83, [(0, .ref a0), (3, .int xv3), (4, .int xv4), (5, .int (xs1 + xs0)), (6, .int x23)], [.ref a0], h)) rfl rfl rfl ?_
    refine xle_getR (f := (6, 34, .array .int, 0)) rfl rfl rfl (fun r24 => ?_)
    refine xle_next (i := .iload 5) (x' := (88, [(0, .ref a0), (3, .int xv3), (4, .int xv4), (5, .int (xs1 + xs0)), (6, .int x23)], [.int (xs1 + xs0), va_rf r24], h)) rfl rfl rfl ?_
    refine xle_next (i := .iconst 0) (x' := (89, [(0, .ref a0), (3, .int xv3), (4, .int xv4), (5, .int (xs1 + xs0)), (6, .int x23)], [.int (Int32.ofInt 0), .int (xs1 + xs0), va_rf r24], h)) rfl rfl rfl ?_
    refine xle_some (fun r_ => (89, [(0, .ref a0), (3, .int xv3), (4, .int xv4), (5, .int (xs1 + xs0)), (6, .int x23)], [.int (Int32.ofInt 0), .int (xs1 + xs0), va_rf r_], h)) (fun a25 => ?_)
    refine xle_iast rfl rfl (fun h26 => ?_)
    refine xle_next (i := .iload 6) (x' := (92, [(0, .ref a0), (3, .int xv3), (4, .int xv4), (5, .int (xs1 + xs0)), (6, .int x23)], [.int x23], h26)) rfl rfl rfl ?_
    refine xle_if (cd := .le) (q := 99) rfl rfl rfl xc_le (fun _ => ?_) (fun _ => ?_)
    · refine xle_next (i := .iconst (-1)) (x' := (100, [(0, .ref a0), (3, .int xv3), (4, .int xv4), (5, .int (xs1 + xs0)), (6, .int x23)], [.int (Int32.ofInt (-1))], h26)) rfl rfl rfl ?_
      exact xle_jump rfl
    · refine xle_next (i := .iconst 0) (x' := (96, [(0, .ref a0), (3, .int xv3), (4, .int xv4), (5, .int (xs1 + xs0)), (6, .int x23)], [.int (Int32.ofInt 0)], h26)) rfl rfl rfl ?_
      refine xle_next (i := .goto 4) (x' := (100, [(0, .ref a0), (3, .int xv3), (4, .int xv4), (5, .int (xs1 + xs0)), (6, .int x23)], [.int (Int32.ofInt 0)], h26)) rfl rfl rfl ?_
      exact xle_jump rfl
noncomputable def D_M_files_247 (z : xzs) (a0 : Nat) (xv3 : Int32) (xv4 : Int32) (xv5 : Int32) (h : xH) : Option xR :=
  (rdI h a0 6 36).bind fun x27 =>
  (xwr h a0 6 36 (.int (x27 + (Int32.ofInt 1)))).bind fun h28 =>
  (rdI h28 a0 6 37).bind fun x29 =>
  (xwr h28 a0 6 37 (.int (x29 + (Int32.ofInt 1)))).bind fun h30 =>
  (rdR h30 a0 6 35).bind fun r31 =>
  (rdR h30 a0 6 34).bind fun r32 =>
  r32.bind fun a33 =>
  (rdA 0 h30 a33 xv5).bind fun x34 =>
  r31.bind fun a35 =>
  (wrI h30 a35 (((((Int8.ofInt 8).toInt32) * x34) - ((Int8.ofInt 8).toInt32)) + (xv4 - xv4 / ((Int8.ofInt 8).toInt32) * ((Int8.ofInt 8).toInt32))) (xv3 - (Int32.ofInt 3))).bind fun h36 =>
  some (.inl (some (.int (Int32.ofInt 0))), h36)
set_option maxRecDepth 20000 in
theorem E_M_files_247 (z : xzs) (a0 : Nat) (xv3 : Int32) (xv4 : Int32) (xv5 : Int32) (h : xH) : xle (D_M_files_247 z a0 xv3 xv4 xv5 h) (B_M_files_247 z a0 xv3 xv4 xv5 h) := by
  unfold D_M_files_247 B_M_files_247
  refine xle_next (i := .aload_n 0) (x' := (248, [(0, .ref a0), (3, .int xv3), (4, .int xv4), (5, .int xv5)], [.ref a0], h)) rfl rfl rfl ?_
  refine xle_next (i := .dup) (x' := (249, [(0, .ref a0), (3, .int xv3), (4, .int xv4), (5, .int xv5)], [.ref a0, .ref a0], h)) rfl rfl rfl ?_
  refine xle_getI (f := (6, 36, .int, 1)) rfl rfl rfl (fun x27 => ?_)
  refine xle_next (i := .iconst 1) (x' := (253, [(0, .ref a0), (3, .int xv3), (4, .int xv4), (5, .int xv5)], [.int (Int32.ofInt 1), .int x27, .ref a0], h)) rfl rfl rfl ?_
  refine xle_next (i := .iadd) (x' := (254, [(0, .ref a0), (3, .int xv3), (4, .int xv4), (5, .int xv5)], [.int (x27 + (Int32.ofInt 1)), .ref a0], h)) rfl rfl rfl ?_
  refine xle_put (v := .int (x27 + (Int32.ofInt 1))) (f := (6, 36, .int, 1)) rfl rfl rfl ⟨by decide, rfl, rfl⟩ (fun h28 => ?_)
  refine xle_next (i := .aload_n 0) (x' := (258, [(0, .ref a0), (3, .int xv3), (4, .int xv4), (5, .int xv5)], [.ref a0], h28)) rfl rfl rfl ?_
  refine xle_next (i := .dup) (x' := (259, [(0, .ref a0), (3, .int xv3), (4, .int xv4), (5, .int xv5)], [.ref a0, .ref a0], h28)) rfl rfl rfl ?_
  refine xle_getI (f := (6, 37, .int, 1)) rfl rfl rfl (fun x29 => ?_)
  refine xle_next (i := .iconst 1) (x' := (263, [(0, .ref a0), (3, .int xv3), (4, .int xv4), (5, .int xv5)], [.int (Int32.ofInt 1), .int x29, .ref a0], h28)) rfl rfl rfl ?_
  refine xle_next (i := .iadd) (x' := (264, [(0, .ref a0), (3, .int xv3), (4, .int xv4), (5, .int xv5)], [.int (x29 + (Int32.ofInt 1)), .ref a0], h28)) rfl rfl rfl ?_
  refine xle_put (v := .int (x29 + (Int32.ofInt 1))) (f := (6, 37, .int, 1)) rfl rfl rfl ⟨by decide, rfl, rfl⟩ (fun h30 => ?_)
  refine xle_next (i := .aload_n 0) (x' := (268, [(0, .ref a0), (3, .int xv3), (4, .int xv4), (5, .int xv5)], [.ref a0], h30)) rfl rfl rfl ?_
  refine xle_getR (f := (6, 35, .array .int, 0)) rfl rfl rfl (fun r31 => ?_)
  refine xle_next (i := .bipush 8) (x' := (273, [(0, .ref a0), (3, .int xv3), (4, .int xv4), (5, .int xv5)], [.int ((Int8.ofInt 8).toInt32), va_rf r31], h30)) rfl rfl rfl ?_
  refine xle_next (i := .aload_n 0) (x' := (274, [(0, .ref a0), (3, .int xv3), (4, .int xv4), (5, .int xv5)], [.ref a0, .int ((Int8.ofInt 8).toInt32), va_rf r31], h30)) rfl rfl rfl ?_
  refine xle_getR (f := (6, 34, .array .int, 0)) rfl rfl rfl (fun r32 => ?_)
  refine xle_next (i := .iload 5) (x' := (279, [(0, .ref a0), (3, .int xv3), (4, .int xv4), (5, .int xv5)], [.int xv5, va_rf r32, .int ((Int8.ofInt 8).toInt32), va_rf r31], h30)) rfl rfl rfl ?_
  refine xle_some (fun r_ => (279, [(0, .ref a0), (3, .int xv3), (4, .int xv4), (5, .int xv5)], [.int xv5, va_rf r_, .int ((Int8.ofInt 8).toInt32), va_rf r31], h30)) (fun a33 => ?_)
  refine xle_iald rfl rfl (fun x34 => ?_)
  refine xle_next (i := .imul) (x' := (281, [(0, .ref a0), (3, .int xv3), (4, .int xv4), (5, .int xv5)], [.int (((Int8.ofInt 8).toInt32) * x34), va_rf r31], h30)) rfl rfl rfl ?_
  refine xle_next (i := .bipush 8) (x' := (283, [(0, .ref a0), (3, .int xv3), (4, .int xv4), (5, .int xv5)], [.int ((Int8.ofInt 8).toInt32), .int (((Int8.ofInt 8).toInt32) * x34), va_rf r31], h30)) rfl rfl rfl ?_
  refine xle_next (i := .isub) (x' := (284, [(0, .ref a0), (3, .int xv3), (4, .int xv4), (5, .int xv5)], [.int ((((Int8.ofInt 8).toInt32) * x34) - ((Int8.ofInt 8).toInt32)), va_rf r31], h30)) rfl rfl rfl ?_
  refine xle_next (i := .iload 4) (x' := (286, [(0, .ref a0), (3, .int xv3), (4, .int xv4), (5, .int xv5)], [.int xv4, .int ((((Int8.ofInt 8).toInt32) * x34) - ((Int8.ofInt 8).toInt32)), va_rf r31], h30)) rfl rfl rfl ?_
  refine xle_next (i := .bipush 8) (x' := (288, [(0, .ref a0), (3, .int xv3), (4, .int xv4), (5, .int xv5)], [.int ((Int8.ofInt 8).toInt32), .int xv4, .int ((((Int8.ofInt 8).toInt32) * x34) - ((Int8.ofInt 8).toInt32)), va_rf r31], h30)) rfl rfl rfl ?_
  refine xle_next (i := .irem) (x' := (289, [(0, .ref a0), (3, .int xv3), (4, .int xv4), (5, .int xv5)], [.int (xv4 - xv4 / ((Int8.ofInt 8).toInt32) * ((Int8.ofInt 8).toInt32)), .int ((((Int8.ofInt 8).toInt32) * x34) - ((Int8.ofInt 8).toInt32)), va_rf r31], h30)) rfl rfl rfl ?_
  refine xle_next (i := .iadd) (x' := (290, [(0, .ref a0), (3, .int xv3), (4, .int xv4), (5, .int xv5)], [.int (((((Int8.ofInt 8).toInt32) * x34) - ((Int8.ofInt 8).toInt32)) + (xv4 - xv4 / ((Int8.ofInt 8).toInt32) * ((Int8.ofInt 8).toInt32))), va_rf r31], h30)) rfl rfl rfl ?_
  refine xle_next (i := .iload_n 3) (x' := (291, [(0, .ref a0), (3, .int xv3), (4, .int xv4), (5, .int xv5)], [.int xv3, .int (((((Int8.ofInt 8).toInt32) * x34) - ((Int8.ofInt 8).toInt32)) + (xv4 - xv4 / ((Int8.ofInt 8).toInt32) * ((Int8.ofInt 8).toInt32))), va_rf r31], h30)) rfl rfl rfl ?_
  refine xle_next (i := .iconst 3) (x' := (292, [(0, .ref a0), (3, .int xv3), (4, .int xv4), (5, .int xv5)], [.int (Int32.ofInt 3), .int xv3, .int (((((Int8.ofInt 8).toInt32) * x34) - ((Int8.ofInt 8).toInt32)) + (xv4 - xv4 / ((Int8.ofInt 8).toInt32) * ((Int8.ofInt 8).toInt32))), va_rf r31], h30)) rfl rfl rfl ?_
  refine xle_next (i := .isub) (x' := (293, [(0, .ref a0), (3, .int xv3), (4, .int xv4), (5, .int xv5)], [.int (xv3 - (Int32.ofInt 3)), .int (((((Int8.ofInt 8).toInt32) * x34) - ((Int8.ofInt 8).toInt32)) + (xv4 - xv4 / ((Int8.ofInt 8).toInt32) * ((Int8.ofInt 8).toInt32))), va_rf r31], h30)) rfl rfl rfl ?_
  refine xle_some (fun r_ => (293, [(0, .ref a0), (3, .int xv3), (4, .int xv4), (5, .int xv5)], [.int (xv3 - (Int32.ofInt 3)), .int (((((Int8.ofInt 8).toInt32) * x34) - ((Int8.ofInt 8).toInt32)) + (xv4 - xv4 / ((Int8.ofInt 8).toInt32) * ((Int8.ofInt 8).toInt32))), va_rf r_], h30)) (fun a35 => ?_)
  refine xle_iast rfl rfl (fun h36 => ?_)
  refine xle_next (i := .iconst 0) (x' := (295, [(0, .ref a0), (3, .int xv3), (4, .int xv4), (5, .int xv5)], [.int (Int32.ofInt 0)], h36)) rfl rfl rfl ?_
  exact xle_end (i := .ireturn) rfl rfl rfl
noncomputable def D_M_files_212 (z : xzs) (a0 : Nat) (xv3 : Int32) (xv4 : Int32) (xv5 : Int32) (xv6 : Int32) (h : xH) : Option xR :=
  if ((Int8.ofInt 8).toInt32) ≤ xv6 then
    B_M_files_247 z a0 xv3 xv4 xv5 h
  else
    (rdR h a0 6 35).bind fun r37 =>
    (rdR h a0 6 34).bind fun r38 =>
    r38.bind fun a39 =>
    (rdA 0 h a39 xv5).bind fun x40 =>
    r37.bind fun a41 =>
    (wrI h a41 (((((Int8.ofInt 8).toInt32) * x40) - ((Int8.ofInt 8).toInt32)) + xv6) (Int32.ofInt 0)).bind fun h42 =>
    B_M_files_212 z a0 xv3 xv4 xv5 (xv6 + Int32.ofInt 1) h42
set_option maxRecDepth 20000 in
theorem E_M_files_212 (z : xzs) (a0 : Nat) (xv3 : Int32) (xv4 : Int32) (xv5 : Int32) (xv6 : Int32) (h : xH) : xle (D_M_files_212 z a0 xv3 xv4 xv5 xv6 h) (B_M_files_212 z a0 xv3 xv4 xv5 xv6 h) := by
  unfold D_M_files_212 B_M_files_212
  refine xle_next (i := .iload 6) (x' := (214, [(0, .ref a0), (3, .int xv3), (4, .int xv4), (5, .int xv5), (6, .int xv6)], [.int xv6], h)) rfl rfl rfl ?_
  refine xle_next (i := .bipush 8) (x' := (216, [(0, .ref a0), (3, .int xv3), (4, .int xv4), (5, .int xv5), (6, .int xv6)], [.int ((Int8.ofInt 8).toInt32), .int xv6], h)) rfl rfl rfl ?_
  refine xle_icmp (cd := .ge) (q := 247) rfl rfl rfl xc_ge (fun _ => ?_) (fun _ => ?_)
  · exact xle_jump rfl
  · refine xle_next (i := .aload_n 0) (x' := (220, [(0, .ref a0), (3, .int xv3), (4, .int xv4), (5, .int xv5), (6, .int xv6)], [.ref a0], h)) rfl rfl rfl ?_
    refine xle_getR (f := (6, 35, .array .int, 0)) rfl rfl rfl (fun r37 => ?_)
    refine xle_next (i := .bipush 8) (x' := (225, [(0, .ref a0), (3, .int xv3), (4, .int xv4), (5, .int xv5), (6, .int xv6)], [.int ((Int8.ofInt 8).toInt32), va_rf r37], h)) rfl rfl rfl ?_
    refine xle_next (i := .aload_n 0) (x' := (226, [(0, .ref a0), (3, .int xv3), (4, .int xv4), (5, .int xv5), (6, .int xv6)], [.ref a0, .int ((Int8.ofInt 8).toInt32), va_rf r37], h)) rfl rfl rfl ?_
    refine xle_getR (f := (6, 34, .array .int, 0)) rfl rfl rfl (fun r38 => ?_)
    refine xle_next (i := .iload 5) (x' := (231, [(0, .ref a0), (3, .int xv3), (4, .int xv4), (5, .int xv5), (6, .int xv6)], [.int xv5, va_rf r38, .int ((Int8.ofInt 8).toInt32), va_rf r37], h)) rfl rfl rfl ?_
    refine xle_some (fun r_ => (231, [(0, .ref a0), (3, .int xv3), (4, .int xv4), (5, .int xv5), (6, .int xv6)], [.int xv5, va_rf r_, .int ((Int8.ofInt 8).toInt32), va_rf r37], h)) (fun a39 => ?_)
    refine xle_iald rfl rfl (fun x40 => ?_)
    refine xle_next (i := .imul) (x' := (233, [(0, .ref a0), (3, .int xv3), (4, .int xv4), (5, .int xv5), (6, .int xv6)], [.int (((Int8.ofInt 8).toInt32) * x40), va_rf r37], h)) rfl rfl rfl ?_
    refine xle_next (i := .bipush 8) (x' := (235, [(0, .ref a0), (3, .int xv3), (4, .int xv4), (5, .int xv5), (6, .int xv6)], [.int ((Int8.ofInt 8).toInt32), .int (((Int8.ofInt 8).toInt32) * x40), va_rf r37], h)) rfl rfl rfl ?_
    refine xle_next (i := .isub) (x' := (236, [(0, .ref a0), (3, .int xv3), (4, .int xv4), (5, .int xv5), (6, .int xv6)], [.int ((((Int8.ofInt 8).toInt32) * x40) - ((Int8.ofInt 8).toInt32)), va_rf r37], h)) rfl rfl rfl ?_
    refine xle_next (i := .iload 6) (x' := (238, [(0, .ref a0), (3, .int xv3), (4, .int xv4), (5, .int xv5), (6, .int xv6)], [.int xv6, .int ((((Int8.ofInt 8).toInt32) * x40) - ((Int8.ofInt 8).toInt32)), va_rf r37], h)) rfl rfl rfl ?_
    refine xle_next (i := .iadd) (x' := (239, [(0, .ref a0), (3, .int xv3), (4, .int xv4), (5, .int xv5), (6, .int xv6)], [.int (((((Int8.ofInt 8).toInt32) * x40) - ((Int8.ofInt 8).toInt32)) + xv6), va_rf r37], h)) rfl rfl rfl ?_
    refine xle_next (i := .iconst 0) (x' := (240, [(0, .ref a0), (3, .int xv3), (4, .int xv4), (5, .int xv5), (6, .int xv6)], [.int (Int32.ofInt 0), .int (((((Int8.ofInt 8).toInt32) * x40) - ((Int8.ofInt 8).toInt32)) + xv6), va_rf r37], h)) rfl rfl rfl ?_
    refine xle_some (fun r_ => (240, [(0, .ref a0), (3, .int xv3), (4, .int xv4), (5, .int xv5), (6, .int xv6)], [.int (Int32.ofInt 0), .int (((((Int8.ofInt 8).toInt32) * x40) - ((Int8.ofInt 8).toInt32)) + xv6), va_rf r_], h)) (fun a41 => ?_)
    refine xle_iast rfl rfl (fun h42 => ?_)
    refine xle_next (i := .iinc 6 1) (x' := (244, [(0, .ref a0), (3, .int xv3), (4, .int xv4), (5, .int xv5), (6, .int (xv6 + Int32.ofInt 1))], [], h42)) rfl rfl rfl ?_
    refine xle_next (i := .goto (-32)) (x' := (212, [(0, .ref a0), (3, .int xv3), (4, .int xv4), (5, .int xv5), (6, .int (xv6 + Int32.ofInt 1))], [], h42)) rfl rfl rfl ?_
    exact xle_jump rfl
noncomputable def D_M_files_126 (z : xzs) (a0 : Nat) (xv4 : Int32) (xv5 : Int32) (h : xH) : Option xR :=
  (rdR h a0 6 34).bind fun r43 =>
  r43.bind fun a44 =>
  (rdA 0 h a44 xv5).bind fun x45 =>
  if x45 ≤ 0 then
    B_M_files_164 z (Int32.ofInt 0) h
  else
    (rdR h a0 6 35).bind fun r46 =>
    (rdR h a0 6 34).bind fun r47 =>
    r47.bind fun a48 =>
    (rdA 0 h a48 xv5).bind fun x49 =>
    r46.bind fun a50 =>
    (rdA 0 h a50 (((((Int8.ofInt 8).toInt32) * x49) - ((Int8.ofInt 8).toInt32)) + (xv4 - xv4 / ((Int8.ofInt 8).toInt32) * ((Int8.ofInt 8).toInt32)))).bind fun x51 =>
    B_M_files_164 z x51 h
set_option maxRecDepth 20000 in
theorem E_M_files_126 (z : xzs) (a0 : Nat) (xv4 : Int32) (xv5 : Int32) (h : xH) : xle (D_M_files_126 z a0 xv4 xv5 h) (B_M_files_126 z a0 xv4 xv5 h) := by
  unfold D_M_files_126 B_M_files_126
  refine xle_next (i := .aload_n 0) (x' := (127, [(0, .ref a0), (4, .int xv4), (5, .int xv5)], [.ref a0], h)) rfl rfl rfl ?_
  refine xle_getR (f := (6, 34, .array .int, 0)) rfl rfl rfl (fun r43 => ?_)
  refine xle_next (i := .iload 5) (x' := (132, [(0, .ref a0), (4, .int xv4), (5, .int xv5)], [.int xv5, va_rf r43], h)) rfl rfl rfl ?_
  refine xle_some (fun r_ => (132, [(0, .ref a0), (4, .int xv4), (5, .int xv5)], [.int xv5, va_rf r_], h)) (fun a44 => ?_)
  refine xle_iald rfl rfl (fun x45 => ?_)
  refine xle_if (cd := .le) (q := 163) rfl rfl rfl xc_le (fun _ => ?_) (fun _ => ?_)
  · refine xle_next (i := .iconst 0) (x' := (164, [(0, .ref a0), (4, .int xv4), (5, .int xv5)], [.int (Int32.ofInt 0)], h)) rfl rfl rfl ?_
    exact xle_jump rfl
  · refine xle_next (i := .aload_n 0) (x' := (137, [(0, .ref a0), (4, .int xv4), (5, .int xv5)], [.ref a0], h)) rfl rfl rfl ?_
    refine xle_getR (f := (6, 35, .array .int, 0)) rfl rfl rfl (fun r46 => ?_)
    refine xle_next (i := .bipush 8) (x' := (142, [(0, .ref a0), (4, .int xv4), (5, .int xv5)], [.int ((Int8.ofInt 8).toInt32), va_rf r46], h)) rfl rfl rfl ?_
    refine xle_next (i := .aload_n 0) (x' := (143, [(0, .ref a0), (4, .int xv4), (5, .int xv5)], [.ref a0, .int ((Int8.ofInt 8).toInt32), va_rf r46], h)) rfl rfl rfl ?_
    refine xle_getR (f := (6, 34, .array .int, 0)) rfl rfl rfl (fun r47 => ?_)
    refine xle_next (i := .iload 5) (x' := (148, [(0, .ref a0), (4, .int xv4), (5, .int xv5)], [.int xv5, va_rf r47, .int ((Int8.ofInt 8).toInt32), va_rf r46], h)) rfl rfl rfl ?_
    refine xle_some (fun r_ => (148, [(0, .ref a0), (4, .int xv4), (5, .int xv5)], [.int xv5, va_rf r_, .int ((Int8.ofInt 8).toInt32), va_rf r46], h)) (fun a48 => ?_)
    refine xle_iald rfl rfl (fun x49 => ?_)
    refine xle_next (i := .imul) (x' := (150, [(0, .ref a0), (4, .int xv4), (5, .int xv5)], [.int (((Int8.ofInt 8).toInt32) * x49), va_rf r46], h)) rfl rfl rfl ?_
    refine xle_next (i := .bipush 8) (x' := (152, [(0, .ref a0), (4, .int xv4), (5, .int xv5)], [.int ((Int8.ofInt 8).toInt32), .int (((Int8.ofInt 8).toInt32) * x49), va_rf r46], h)) rfl rfl rfl ?_
    refine xle_next (i := .isub) (x' := (153, [(0, .ref a0), (4, .int xv4), (5, .int xv5)], [.int ((((Int8.ofInt 8).toInt32) * x49) - ((Int8.ofInt 8).toInt32)), va_rf r46], h)) rfl rfl rfl ?_
    refine xle_next (i := .iload 4) (x' := (155, [(0, .ref a0), (4, .int xv4), (5, .int xv5)], [.int xv4, .int ((((Int8.ofInt 8).toInt32) * x49) - ((Int8.ofInt 8).toInt32)), va_rf r46], h)) rfl rfl rfl ?_
    refine xle_next (i := .bipush 8) (x' := (157, [(0, .ref a0), (4, .int xv4), (5, .int xv5)], [.int ((Int8.ofInt 8).toInt32), .int xv4, .int ((((Int8.ofInt 8).toInt32) * x49) - ((Int8.ofInt 8).toInt32)), va_rf r46], h)) rfl rfl rfl ?_
    refine xle_next (i := .irem) (x' := (158, [(0, .ref a0), (4, .int xv4), (5, .int xv5)], [.int (xv4 - xv4 / ((Int8.ofInt 8).toInt32) * ((Int8.ofInt 8).toInt32)), .int ((((Int8.ofInt 8).toInt32) * x49) - ((Int8.ofInt 8).toInt32)), va_rf r46], h)) rfl rfl rfl ?_
    refine xle_next (i := .iadd) (x' := (159, [(0, .ref a0), (4, .int xv4), (5, .int xv5)], [.int (((((Int8.ofInt 8).toInt32) * x49) - ((Int8.ofInt 8).toInt32)) + (xv4 - xv4 / ((Int8.ofInt 8).toInt32) * ((Int8.ofInt 8).toInt32))), va_rf r46], h)) rfl rfl rfl ?_
    refine xle_some (fun r_ => (159, [(0, .ref a0), (4, .int xv4), (5, .int xv5)], [.int (((((Int8.ofInt 8).toInt32) * x49) - ((Int8.ofInt 8).toInt32)) + (xv4 - xv4 / ((Int8.ofInt 8).toInt32) * ((Int8.ofInt 8).toInt32))), va_rf r_], h)) (fun a50 => ?_)
    refine xle_iald rfl rfl (fun x51 => ?_)
    refine xle_next (i := .goto 4) (x' := (164, [(0, .ref a0), (4, .int xv4), (5, .int xv5)], [.int x51], h)) rfl rfl rfl ?_
    exact xle_jump rfl
noncomputable def D_M_files_100 (z : xzs) (xs0 : Int32) (h : xH) : Option xR :=
  some (.inl (some (.int xs0)), h)
set_option maxRecDepth 20000 in
theorem E_M_files_100 (z : xzs) (xs0 : Int32) (h : xH) : xle (D_M_files_100 z xs0 h) (B_M_files_100 z xs0 h) := by
  unfold D_M_files_100 B_M_files_100
  exact xle_end (i := .ireturn) rfl rfl rfl
noncomputable def D_M_files_164 (z : xzs) (xs0 : Int32) (h : xH) : Option xR :=
  some (.inl (some (.int xs0)), h)
set_option maxRecDepth 20000 in
theorem E_M_files_164 (z : xzs) (xs0 : Int32) (h : xH) : xle (D_M_files_164 z xs0 h) (B_M_files_164 z xs0 h) := by
  unfold D_M_files_164 B_M_files_164
  exact xle_end (i := .ireturn) rfl rfl rfl
noncomputable def D_M_asks_0 (z : xzs) (a0 : Nat) (p1 : Int32) (p2 : Int32) (h : xH) : Option xR :=
  (rdR h a0 6 15).bind fun r1 =>
  r1.bind fun a2 =>
  (wrI h a2 p1 (Int32.ofInt 3)).bind fun h3 =>
  (rdR h3 a0 6 29).bind fun r4 =>
  r4.bind fun a5 =>
  (wrI h3 a5 p2 p1).bind fun h6 =>
  (rdR h6 a0 6 30).bind fun r7 =>
  (rdR h6 a0 6 28).bind fun r8 =>
  r8.bind fun a9 =>
  (rdA 0 h6 a9 p1).bind fun x10 =>
  r7.bind fun a11 =>
  (wrI h6 a11 p2 x10).bind fun h12 =>
  some (.inl none, h12)
set_option maxRecDepth 20000 in
theorem E_M_asks (z : xzs) (a0 : Nat) (p1 : Int32) (p2 : Int32) (h : xH) : xle (D_M_asks_0 z a0 p1 p2 h) (xfun (K_M_asks z) 3 [.ref a0, .int p1, .int p2] h) := by
  unfold D_M_asks_0
  refine xle_entry (Nat.le_of_ble_eq_true rfl) (xal_c (xca_a _) (xal_c (xca_i _) (xal_c (xca_i _) (rfl)))) ?_
  show xle _ (xev (K_M_asks z) (0, [(0, .ref a0), (1, .int p1), (2, .int p2)], [], h))
  refine xle_next (i := .aload_n 0) (x' := (1, [(0, .ref a0), (1, .int p1), (2, .int p2)], [.ref a0], h)) rfl rfl rfl ?_
  refine xle_getR (f := (6, 15, .array .int, 0)) rfl rfl rfl (fun r1 => ?_)
  refine xle_next (i := .iload_n 1) (x' := (5, [(0, .ref a0), (1, .int p1), (2, .int p2)], [.int p1, va_rf r1], h)) rfl rfl rfl ?_
  refine xle_next (i := .iconst 3) (x' := (6, [(0, .ref a0), (1, .int p1), (2, .int p2)], [.int (Int32.ofInt 3), .int p1, va_rf r1], h)) rfl rfl rfl ?_
  refine xle_some (fun r_ => (6, [(0, .ref a0), (1, .int p1), (2, .int p2)], [.int (Int32.ofInt 3), .int p1, va_rf r_], h)) (fun a2 => ?_)
  refine xle_iast rfl rfl (fun h3 => ?_)
  refine xle_next (i := .aload_n 0) (x' := (8, [(0, .ref a0), (1, .int p1), (2, .int p2)], [.ref a0], h3)) rfl rfl rfl ?_
  refine xle_getR (f := (6, 29, .array .int, 0)) rfl rfl rfl (fun r4 => ?_)
  refine xle_next (i := .iload_n 2) (x' := (12, [(0, .ref a0), (1, .int p1), (2, .int p2)], [.int p2, va_rf r4], h3)) rfl rfl rfl ?_
  refine xle_next (i := .iload_n 1) (x' := (13, [(0, .ref a0), (1, .int p1), (2, .int p2)], [.int p1, .int p2, va_rf r4], h3)) rfl rfl rfl ?_
  refine xle_some (fun r_ => (13, [(0, .ref a0), (1, .int p1), (2, .int p2)], [.int p1, .int p2, va_rf r_], h3)) (fun a5 => ?_)
  refine xle_iast rfl rfl (fun h6 => ?_)
  refine xle_next (i := .aload_n 0) (x' := (15, [(0, .ref a0), (1, .int p1), (2, .int p2)], [.ref a0], h6)) rfl rfl rfl ?_
  refine xle_getR (f := (6, 30, .array .int, 0)) rfl rfl rfl (fun r7 => ?_)
  refine xle_next (i := .iload_n 2) (x' := (19, [(0, .ref a0), (1, .int p1), (2, .int p2)], [.int p2, va_rf r7], h6)) rfl rfl rfl ?_
  refine xle_next (i := .aload_n 0) (x' := (20, [(0, .ref a0), (1, .int p1), (2, .int p2)], [.ref a0, .int p2, va_rf r7], h6)) rfl rfl rfl ?_
  refine xle_getR (f := (6, 28, .array .int, 0)) rfl rfl rfl (fun r8 => ?_)
  refine xle_next (i := .iload_n 1) (x' := (24, [(0, .ref a0), (1, .int p1), (2, .int p2)], [.int p1, va_rf r8, .int p2, va_rf r7], h6)) rfl rfl rfl ?_
  refine xle_some (fun r_ => (24, [(0, .ref a0), (1, .int p1), (2, .int p2)], [.int p1, va_rf r_, .int p2, va_rf r7], h6)) (fun a9 => ?_)
  refine xle_iald rfl rfl (fun x10 => ?_)
  refine xle_some (fun r_ => (25, [(0, .ref a0), (1, .int p1), (2, .int p2)], [.int x10, .int p2, va_rf r_], h6)) (fun a11 => ?_)
  refine xle_iast rfl rfl (fun h12 => ?_)
  exact xle_end (i := .return_) rfl rfl rfl
noncomputable def B_M_call_28 (z : xzs)  (h : xH) : Option xR := xev (K_M_call z) (28, [], [], h)
noncomputable def B_M_call_82 (z : xzs) (xs0 : Int32) (xs1 : Int32) (rs2 : Option Nat) (h : xH) : Option xR := xev (K_M_call z) (82, [], [.int xs0, .int xs1, va_rf rs2], h)
noncomputable def D_M_call_0 (z : xzs) (a0 : Nat) (p1 : Int32) (p2 : Int32) (h : xH) : Option xR :=
  xclI (f_M_reaches z [.int p1] h) fun x2 h1 =>
  (xisO h1 a0 6).bind fun _ => xclI (f_M_begins z [.ref a0, .int x2] h1) fun x4 h3 =>
  if x4 = 0 then
    B_M_call_28 z h3
  else
    (xisO h3 a0 6).bind fun _ => xclI (f_M_has z [.ref a0, .int p1] h3) fun x6 h5 =>
    if x6 = 0 then
      B_M_call_28 z h5
    else
      (xisO h5 a0 6).bind fun _ => xclI (f_M_is z [.ref a0, .int (Int32.ofInt 1), .int (Int32.ofInt 2)] h5) fun x8 h7 =>
      if ¬ x8 = 0 then
        (rdR h7 a0 6 8).bind fun r9 =>
        (rdI h7 a0 6 39).bind fun x10 =>
        r9.bind fun a11 =>
        (rdA 0 h7 a11 x10).bind fun x12 =>
        if (Int32.ofInt 1) < x12 then
          (rdI h7 a0 6 31).bind fun x13 =>
          (xwr h7 a0 6 31 (.int (x13 + (Int32.ofInt 1)))).bind fun h14 =>
          (rdR h14 a0 6 28).bind fun r15 =>
          (rdI h14 a0 6 38).bind fun x16 =>
          (rdI h14 a0 6 31).bind fun x17 =>
          r15.bind fun a18 =>
          (wrI h14 a18 x16 x17).bind fun h19 =>
          (xisO h19 a0 6).bind fun _ => xclI (f_M_waiting z [.ref a0, .int x12, .int (Int32.ofInt 4), .int (Int32.ofInt 4)] h19) fun x21 h20 =>
          if x21 ≤ 0 then
            (rdR h20 a0 6 10).bind fun r22 =>
            (rdI h20 a0 6 39).bind fun x23 =>
            r22.bind fun a24 =>
            (rdA 0 h20 a24 x23).bind fun x25 =>
            (xisO h20 a0 6).bind fun _ => xclV (f_M_noteMessage z [.ref a0, .int p2, .int x25, .int (Int32.ofInt 0)] h20) fun h26 =>
            (rdI h26 a0 6 38).bind fun x27 =>
            (xisO h26 a0 6).bind fun _ => xclV (f_M_waits z [.ref a0, .int x27, .int (Int32.ofInt 2), .int x12] h26) fun h28 =>
            some (.inl (some (.int (Int32.ofInt 1))), h28)
          else
            (rdR h20 a0 6 10).bind fun r29 =>
            (rdI h20 a0 6 39).bind fun x30 =>
            r29.bind fun a31 =>
            (rdA 0 h20 a31 x30).bind fun x32 =>
            (xisO h20 a0 6).bind fun _ => xclV (f_M_deliver z [.ref a0, .int x21, .int p2, .int x32, .int (Int32.ofInt 0)] h20) fun h33 =>
            (xisO h33 a0 6).bind fun _ => xclV (f_M_ready z [.ref a0, .int x21] h33) fun h34 =>
            (rdI h34 a0 6 38).bind fun x35 =>
            (xisO h34 a0 6).bind fun _ => xclV (f_M_asks z [.ref a0, .int x35, .int x21] h34) fun h36 =>
            some (.inl (some (.int (Int32.ofInt 0))), h36)
        else
          (rdR h7 a0 6 10).bind fun r37 =>
          (rdI h7 a0 6 39).bind fun x38 =>
          r37.bind fun a39 =>
          (rdA 0 h7 a39 x38).bind fun x40 =>
          (rdI h7 a0 6 38).bind fun x41 =>
          if ¬ x12 = 0 then
            (xisO h7 a0 6).bind fun _ => xclI (f_M_files z [.ref a0, .int p2, .int x40] h7) fun x43 h42 =>
            B_M_call_82 z x43 x41 (some a0) h42
          else
            (xisO h7 a0 6).bind fun _ => xclI (f_M_names z [.ref a0, .int p2, .int x40] h7) fun x45 h44 =>
            B_M_call_82 z x45 x41 (some a0) h44
      else
        B_M_call_28 z h7
set_option maxRecDepth 20000 in
theorem E_M_call (z : xzs) (a0 : Nat) (p1 : Int32) (p2 : Int32) (h : xH) : xle (D_M_call_0 z a0 p1 p2 h) (xfun (K_M_call z) 5 [.ref a0, .int p1, .int p2] h) := by
  unfold D_M_call_0
  refine xle_entry (Nat.le_of_ble_eq_true rfl) (xal_c (xca_a _) (xal_c (xca_i _) (xal_c (xca_i _) (rfl)))) ?_
  show xle _ (xev (K_M_call z) (0, [(0, .ref a0), (1, .int p1), (2, .int p2)], [], h))
  refine xle_next (i := .aload_n 0) (x' := (1, [(0, .ref a0), (1, .int p1), (2, .int p2)], [.ref a0], h)) rfl rfl rfl ?_
  refine xle_next (i := .iload_n 1) (x' := (2, [(0, .ref a0), (1, .int p1), (2, .int p2)], [.int p1, .ref a0], h)) rfl rfl rfl ?_
  refine xle_clI (i := .invokestatic 173) (fo := f_M_reaches z [.int p1] h) (t := [.ref a0]) rfl rfl rfl (fun x2 h1 => ?_)
  refine xle_isO (i := .invokevirtual 177) (bq := a0) (ci := 6) (fo := (f_M_begins z [.ref a0, .int x2] h1).bind (xback 5 [(0, .ref a0), (1, .int p1), (2, .int p2)] [])) rfl rfl rfl (fun hs => ?_)
  refine xle_clI (t := []) rfl rfl hs (fun x4 h3 => ?_)
  refine xle_if (cd := .eq) (q := 28) rfl rfl rfl xc_eq (fun _ => ?_) (fun _ => ?_)
  · exact xle_jump rfl
  · refine xle_next (i := .aload_n 0) (x' := (12, [(0, .ref a0), (1, .int p1), (2, .int p2)], [.ref a0], h3)) rfl rfl rfl ?_
    refine xle_next (i := .iload_n 1) (x' := (13, [(0, .ref a0), (1, .int p1), (2, .int p2)], [.int p1, .ref a0], h3)) rfl rfl rfl ?_
    refine xle_isO (i := .invokevirtual 181) (bq := a0) (ci := 6) (fo := (f_M_has z [.ref a0, .int p1] h3).bind (xback 13 [(0, .ref a0), (1, .int p1), (2, .int p2)] [])) rfl rfl rfl (fun hs => ?_)
    refine xle_clI (t := []) rfl rfl hs (fun x6 h5 => ?_)
    refine xle_if (cd := .eq) (q := 28) rfl rfl rfl xc_eq (fun _ => ?_) (fun _ => ?_)
    · exact xle_jump rfl
    · refine xle_next (i := .aload_n 0) (x' := (20, [(0, .ref a0), (1, .int p1), (2, .int p2)], [.ref a0], h5)) rfl rfl rfl ?_
      refine xle_next (i := .iconst 1) (x' := (21, [(0, .ref a0), (1, .int p1), (2, .int p2)], [.int (Int32.ofInt 1), .ref a0], h5)) rfl rfl rfl ?_
      refine xle_next (i := .iconst 2) (x' := (22, [(0, .ref a0), (1, .int p1), (2, .int p2)], [.int (Int32.ofInt 2), .int (Int32.ofInt 1), .ref a0], h5)) rfl rfl rfl ?_
      refine xle_isO (i := .invokevirtual 199) (bq := a0) (ci := 6) (fo := (f_M_is z [.ref a0, .int (Int32.ofInt 1), .int (Int32.ofInt 2)] h5).bind (xback 22 [(0, .ref a0), (1, .int p1), (2, .int p2)] [])) rfl rfl rfl (fun hs => ?_)
      refine xle_clI (t := []) rfl rfl hs (fun x8 h7 => ?_)
      refine xle_if (cd := .ne) (q := 30) rfl rfl rfl xc_ne (fun _ => ?_) (fun _ => ?_)
      · refine xle_next (i := .aload_n 0) (x' := (31, [(0, .ref a0), (1, .int p1), (2, .int p2)], [.ref a0], h7)) rfl rfl rfl ?_
        refine xle_getR (f := (6, 8, .array .int, 0)) rfl rfl rfl (fun r9 => ?_)
        refine xle_next (i := .aload_n 0) (x' := (35, [(0, .ref a0), (1, .int p1), (2, .int p2)], [.ref a0, va_rf r9], h7)) rfl rfl rfl ?_
        refine xle_getI (f := (6, 39, .int, 1)) rfl rfl rfl (fun x10 => ?_)
        refine xle_some (fun r_ => (38, [(0, .ref a0), (1, .int p1), (2, .int p2)], [.int x10, va_rf r_], h7)) (fun a11 => ?_)
        refine xle_iald rfl rfl (fun x12 => ?_)
        refine xle_next (i := .istore_n 3) (x' := (40, [(0, .ref a0), (1, .int p1), (2, .int p2), (3, .int x12)], [], h7)) rfl rfl rfl ?_
        refine xle_next (i := .iload_n 3) (x' := (41, [(0, .ref a0), (1, .int p1), (2, .int p2), (3, .int x12)], [.int x12], h7)) rfl rfl rfl ?_
        refine xle_next (i := .iconst 1) (x' := (42, [(0, .ref a0), (1, .int p1), (2, .int p2), (3, .int x12)], [.int (Int32.ofInt 1), .int x12], h7)) rfl rfl rfl ?_
        refine xle_icmp (cd := .gt) (q := 89) rfl rfl rfl xc_gt (fun _ => ?_) (fun _ => ?_)
        · refine xle_next (i := .aload_n 0) (x' := (90, [(0, .ref a0), (1, .int p1), (2, .int p2), (3, .int x12)], [.ref a0], h7)) rfl rfl rfl ?_
          refine xle_next (i := .dup) (x' := (91, [(0, .ref a0), (1, .int p1), (2, .int p2), (3, .int x12)], [.ref a0, .ref a0], h7)) rfl rfl rfl ?_
          refine xle_getI (f := (6, 31, .int, 1)) rfl rfl rfl (fun x13 => ?_)
          refine xle_next (i := .iconst 1) (x' := (95, [(0, .ref a0), (1, .int p1), (2, .int p2), (3, .int x12)], [.int (Int32.ofInt 1), .int x13, .ref a0], h7)) rfl rfl rfl ?_
          refine xle_next (i := .iadd) (x' := (96, [(0, .ref a0), (1, .int p1), (2, .int p2), (3, .int x12)], [.int (x13 + (Int32.ofInt 1)), .ref a0], h7)) rfl rfl rfl ?_
          refine xle_put (v := .int (x13 + (Int32.ofInt 1))) (f := (6, 31, .int, 1)) rfl rfl rfl ⟨by decide, rfl, rfl⟩ (fun h14 => ?_)
          refine xle_next (i := .aload_n 0) (x' := (100, [(0, .ref a0), (1, .int p1), (2, .int p2), (3, .int x12)], [.ref a0], h14)) rfl rfl rfl ?_
          refine xle_getR (f := (6, 28, .array .int, 0)) rfl rfl rfl (fun r15 => ?_)
          refine xle_next (i := .aload_n 0) (x' := (104, [(0, .ref a0), (1, .int p1), (2, .int p2), (3, .int x12)], [.ref a0, va_rf r15], h14)) rfl rfl rfl ?_
          refine xle_getI (f := (6, 38, .int, 1)) rfl rfl rfl (fun x16 => ?_)
          refine xle_next (i := .aload_n 0) (x' := (108, [(0, .ref a0), (1, .int p1), (2, .int p2), (3, .int x12)], [.ref a0, .int x16, va_rf r15], h14)) rfl rfl rfl ?_
          refine xle_getI (f := (6, 31, .int, 1)) rfl rfl rfl (fun x17 => ?_)
          refine xle_some (fun r_ => (111, [(0, .ref a0), (1, .int p1), (2, .int p2), (3, .int x12)], [.int x17, .int x16, va_rf r_], h14)) (fun a18 => ?_)
          refine xle_iast rfl rfl (fun h19 => ?_)
          refine xle_next (i := .aload_n 0) (x' := (113, [(0, .ref a0), (1, .int p1), (2, .int p2), (3, .int x12)], [.ref a0], h19)) rfl rfl rfl ?_
          refine xle_next (i := .iload_n 3) (x' := (114, [(0, .ref a0), (1, .int p1), (2, .int p2), (3, .int x12)], [.int x12, .ref a0], h19)) rfl rfl rfl ?_
          refine xle_next (i := .iconst 4) (x' := (115, [(0, .ref a0), (1, .int p1), (2, .int p2), (3, .int x12)], [.int (Int32.ofInt 4), .int x12, .ref a0], h19)) rfl rfl rfl ?_
          refine xle_next (i := .iconst 4) (x' := (116, [(0, .ref a0), (1, .int p1), (2, .int p2), (3, .int x12)], [.int (Int32.ofInt 4), .int (Int32.ofInt 4), .int x12, .ref a0], h19)) rfl rfl rfl ?_
          refine xle_isO (i := .invokevirtual 128) (bq := a0) (ci := 6) (fo := (f_M_waiting z [.ref a0, .int x12, .int (Int32.ofInt 4), .int (Int32.ofInt 4)] h19).bind (xback 116 [(0, .ref a0), (1, .int p1), (2, .int p2), (3, .int x12)] [])) rfl rfl rfl (fun hs => ?_)
          refine xle_clI (t := []) rfl rfl hs (fun x21 h20 => ?_)
          refine xle_next (i := .istore 4) (x' := (121, [(0, .ref a0), (1, .int p1), (2, .int p2), (3, .int x12), (4, .int x21)], [], h20)) rfl rfl rfl ?_
          refine xle_next (i := .iload 4) (x' := (123, [(0, .ref a0), (1, .int p1), (2, .int p2), (3, .int x12), (4, .int x21)], [.int x21], h20)) rfl rfl rfl ?_
          refine xle_if (cd := .le) (q := 161) rfl rfl rfl xc_le (fun _ => ?_) (fun _ => ?_)
          · refine xle_next (i := .aload_n 0) (x' := (162, [(0, .ref a0), (1, .int p1), (2, .int p2), (3, .int x12), (4, .int x21)], [.ref a0], h20)) rfl rfl rfl ?_
            refine xle_next (i := .iload_n 2) (x' := (163, [(0, .ref a0), (1, .int p1), (2, .int p2), (3, .int x12), (4, .int x21)], [.int p2, .ref a0], h20)) rfl rfl rfl ?_
            refine xle_next (i := .aload_n 0) (x' := (164, [(0, .ref a0), (1, .int p1), (2, .int p2), (3, .int x12), (4, .int x21)], [.ref a0, .int p2, .ref a0], h20)) rfl rfl rfl ?_
            refine xle_getR (f := (6, 10, .array .int, 0)) rfl rfl rfl (fun r22 => ?_)
            refine xle_next (i := .aload_n 0) (x' := (168, [(0, .ref a0), (1, .int p1), (2, .int p2), (3, .int x12), (4, .int x21)], [.ref a0, va_rf r22, .int p2, .ref a0], h20)) rfl rfl rfl ?_
            refine xle_getI (f := (6, 39, .int, 1)) rfl rfl rfl (fun x23 => ?_)
            refine xle_some (fun r_ => (171, [(0, .ref a0), (1, .int p1), (2, .int p2), (3, .int x12), (4, .int x21)], [.int x23, va_rf r_, .int p2, .ref a0], h20)) (fun a24 => ?_)
            refine xle_iald rfl rfl (fun x25 => ?_)
            refine xle_next (i := .iconst 0) (x' := (173, [(0, .ref a0), (1, .int p1), (2, .int p2), (3, .int x12), (4, .int x21)], [.int (Int32.ofInt 0), .int x25, .int p2, .ref a0], h20)) rfl rfl rfl ?_
            refine xle_isO (i := .invokevirtual 209) (bq := a0) (ci := 6) (fo := (f_M_noteMessage z [.ref a0, .int p2, .int x25, .int (Int32.ofInt 0)] h20).bind (xback 173 [(0, .ref a0), (1, .int p1), (2, .int p2), (3, .int x12), (4, .int x21)] [])) rfl rfl rfl (fun hs => ?_)
            refine xle_clV (t := []) rfl rfl hs (fun h26 => ?_)
            refine xle_next (i := .aload_n 0) (x' := (177, [(0, .ref a0), (1, .int p1), (2, .int p2), (3, .int x12), (4, .int x21)], [.ref a0], h26)) rfl rfl rfl ?_
            refine xle_next (i := .aload_n 0) (x' := (178, [(0, .ref a0), (1, .int p1), (2, .int p2), (3, .int x12), (4, .int x21)], [.ref a0, .ref a0], h26)) rfl rfl rfl ?_
            refine xle_getI (f := (6, 38, .int, 1)) rfl rfl rfl (fun x27 => ?_)
            refine xle_next (i := .iconst 2) (x' := (182, [(0, .ref a0), (1, .int p1), (2, .int p2), (3, .int x12), (4, .int x21)], [.int (Int32.ofInt 2), .int x27, .ref a0], h26)) rfl rfl rfl ?_
            refine xle_next (i := .iload_n 3) (x' := (183, [(0, .ref a0), (1, .int p1), (2, .int p2), (3, .int x12), (4, .int x21)], [.int x12, .int (Int32.ofInt 2), .int x27, .ref a0], h26)) rfl rfl rfl ?_
            refine xle_isO (i := .invokevirtual 213) (bq := a0) (ci := 6) (fo := (f_M_waits z [.ref a0, .int x27, .int (Int32.ofInt 2), .int x12] h26).bind (xback 183 [(0, .ref a0), (1, .int p1), (2, .int p2), (3, .int x12), (4, .int x21)] [])) rfl rfl rfl (fun hs => ?_)
            refine xle_clV (t := []) rfl rfl hs (fun h28 => ?_)
            refine xle_next (i := .iconst 1) (x' := (187, [(0, .ref a0), (1, .int p1), (2, .int p2), (3, .int x12), (4, .int x21)], [.int (Int32.ofInt 1)], h28)) rfl rfl rfl ?_
            exact xle_end (i := .ireturn) rfl rfl rfl
          · refine xle_next (i := .aload_n 0) (x' := (127, [(0, .ref a0), (1, .int p1), (2, .int p2), (3, .int x12), (4, .int x21)], [.ref a0], h20)) rfl rfl rfl ?_
            refine xle_next (i := .iload 4) (x' := (129, [(0, .ref a0), (1, .int p1), (2, .int p2), (3, .int x12), (4, .int x21)], [.int x21, .ref a0], h20)) rfl rfl rfl ?_
            refine xle_next (i := .iload_n 2) (x' := (130, [(0, .ref a0), (1, .int p1), (2, .int p2), (3, .int x12), (4, .int x21)], [.int p2, .int x21, .ref a0], h20)) rfl rfl rfl ?_
            refine xle_next (i := .aload_n 0) (x' := (131, [(0, .ref a0), (1, .int p1), (2, .int p2), (3, .int x12), (4, .int x21)], [.ref a0, .int p2, .int x21, .ref a0], h20)) rfl rfl rfl ?_
            refine xle_getR (f := (6, 10, .array .int, 0)) rfl rfl rfl (fun r29 => ?_)
            refine xle_next (i := .aload_n 0) (x' := (135, [(0, .ref a0), (1, .int p1), (2, .int p2), (3, .int x12), (4, .int x21)], [.ref a0, va_rf r29, .int p2, .int x21, .ref a0], h20)) rfl rfl rfl ?_
            refine xle_getI (f := (6, 39, .int, 1)) rfl rfl rfl (fun x30 => ?_)
            refine xle_some (fun r_ => (138, [(0, .ref a0), (1, .int p1), (2, .int p2), (3, .int x12), (4, .int x21)], [.int x30, va_rf r_, .int p2, .int x21, .ref a0], h20)) (fun a31 => ?_)
            refine xle_iald rfl rfl (fun x32 => ?_)
            refine xle_next (i := .iconst 0) (x' := (140, [(0, .ref a0), (1, .int p1), (2, .int p2), (3, .int x12), (4, .int x21)], [.int (Int32.ofInt 0), .int x32, .int p2, .int x21, .ref a0], h20)) rfl rfl rfl ?_
            refine xle_isO (i := .invokevirtual 206) (bq := a0) (ci := 6) (fo := (f_M_deliver z [.ref a0, .int x21, .int p2, .int x32, .int (Int32.ofInt 0)] h20).bind (xback 140 [(0, .ref a0), (1, .int p1), (2, .int p2), (3, .int x12), (4, .int x21)] [])) rfl rfl rfl (fun hs => ?_)
            refine xle_clV (t := []) rfl rfl hs (fun h33 => ?_)
            refine xle_next (i := .aload_n 0) (x' := (144, [(0, .ref a0), (1, .int p1), (2, .int p2), (3, .int x12), (4, .int x21)], [.ref a0], h33)) rfl rfl rfl ?_
            refine xle_next (i := .iload 4) (x' := (146, [(0, .ref a0), (1, .int p1), (2, .int p2), (3, .int x12), (4, .int x21)], [.int x21, .ref a0], h33)) rfl rfl rfl ?_
            refine xle_isO (i := .invokevirtual 132) (bq := a0) (ci := 6) (fo := (f_M_ready z [.ref a0, .int x21] h33).bind (xback 146 [(0, .ref a0), (1, .int p1), (2, .int p2), (3, .int x12), (4, .int x21)] [])) rfl rfl rfl (fun hs => ?_)
            refine xle_clV (t := []) rfl rfl hs (fun h34 => ?_)
            refine xle_next (i := .aload_n 0) (x' := (150, [(0, .ref a0), (1, .int p1), (2, .int p2), (3, .int x12), (4, .int x21)], [.ref a0], h34)) rfl rfl rfl ?_
            refine xle_next (i := .aload_n 0) (x' := (151, [(0, .ref a0), (1, .int p1), (2, .int p2), (3, .int x12), (4, .int x21)], [.ref a0, .ref a0], h34)) rfl rfl rfl ?_
            refine xle_getI (f := (6, 38, .int, 1)) rfl rfl rfl (fun x35 => ?_)
            refine xle_next (i := .iload 4) (x' := (156, [(0, .ref a0), (1, .int p1), (2, .int p2), (3, .int x12), (4, .int x21)], [.int x21, .int x35, .ref a0], h34)) rfl rfl rfl ?_
            refine xle_isO (i := .invokevirtual 222) (bq := a0) (ci := 6) (fo := (f_M_asks z [.ref a0, .int x35, .int x21] h34).bind (xback 156 [(0, .ref a0), (1, .int p1), (2, .int p2), (3, .int x12), (4, .int x21)] [])) rfl rfl rfl (fun hs => ?_)
            refine xle_clV (t := []) rfl rfl hs (fun h36 => ?_)
            refine xle_next (i := .iconst 0) (x' := (160, [(0, .ref a0), (1, .int p1), (2, .int p2), (3, .int x12), (4, .int x21)], [.int (Int32.ofInt 0)], h36)) rfl rfl rfl ?_
            exact xle_end (i := .ireturn) rfl rfl rfl
        · refine xle_next (i := .aload_n 0) (x' := (46, [(0, .ref a0), (1, .int p1), (2, .int p2), (3, .int x12)], [.ref a0], h7)) rfl rfl rfl ?_
          refine xle_getR (f := (6, 10, .array .int, 0)) rfl rfl rfl (fun r37 => ?_)
          refine xle_next (i := .aload_n 0) (x' := (50, [(0, .ref a0), (1, .int p1), (2, .int p2), (3, .int x12)], [.ref a0, va_rf r37], h7)) rfl rfl rfl ?_
          refine xle_getI (f := (6, 39, .int, 1)) rfl rfl rfl (fun x38 => ?_)
          refine xle_some (fun r_ => (53, [(0, .ref a0), (1, .int p1), (2, .int p2), (3, .int x12)], [.int x38, va_rf r_], h7)) (fun a39 => ?_)
          refine xle_iald rfl rfl (fun x40 => ?_)
          refine xle_next (i := .istore 4) (x' := (56, [(0, .ref a0), (1, .int p1), (2, .int p2), (3, .int x12), (4, .int x40)], [], h7)) rfl rfl rfl ?_
          refine xle_next (i := .aload_n 0) (x' := (57, [(0, .ref a0), (1, .int p1), (2, .int p2), (3, .int x12), (4, .int x40)], [.ref a0], h7)) rfl rfl rfl ?_
          refine xle_next (i := .aload_n 0) (x' := (58, [(0, .ref a0), (1, .int p1), (2, .int p2), (3, .int x12), (4, .int x40)], [.ref a0, .ref a0], h7)) rfl rfl rfl ?_
          refine xle_getI (f := (6, 38, .int, 1)) rfl rfl rfl (fun x41 => ?_)
          refine xle_next (i := .iload_n 3) (x' := (62, [(0, .ref a0), (1, .int p1), (2, .int p2), (3, .int x12), (4, .int x40)], [.int x12, .int x41, .ref a0], h7)) rfl rfl rfl ?_
          refine xle_if (cd := .ne) (q := 75) rfl rfl rfl xc_ne (fun _ => ?_) (fun _ => ?_)
          · refine xle_next (i := .aload_n 0) (x' := (76, [(0, .ref a0), (1, .int p1), (2, .int p2), (3, .int x12), (4, .int x40)], [.ref a0, .int x41, .ref a0], h7)) rfl rfl rfl ?_
            refine xle_next (i := .iload_n 2) (x' := (77, [(0, .ref a0), (1, .int p1), (2, .int p2), (3, .int x12), (4, .int x40)], [.int p2, .ref a0, .int x41, .ref a0], h7)) rfl rfl rfl ?_
            refine xle_next (i := .iload 4) (x' := (79, [(0, .ref a0), (1, .int p1), (2, .int p2), (3, .int x12), (4, .int x40)], [.int x40, .int p2, .ref a0, .int x41, .ref a0], h7)) rfl rfl rfl ?_
            refine xle_isO (i := .invokevirtual 219) (bq := a0) (ci := 6) (fo := (f_M_files z [.ref a0, .int p2, .int x40] h7).bind (xback 79 [(0, .ref a0), (1, .int p1), (2, .int p2), (3, .int x12), (4, .int x40)] [.int x41, .ref a0])) rfl rfl rfl (fun hs => ?_)
            refine xle_clI (t := [.int x41, .ref a0]) rfl rfl hs (fun x43 h42 => ?_)
            exact xle_jump rfl
          · refine xle_next (i := .aload_n 0) (x' := (66, [(0, .ref a0), (1, .int p1), (2, .int p2), (3, .int x12), (4, .int x40)], [.ref a0, .int x41, .ref a0], h7)) rfl rfl rfl ?_
            refine xle_next (i := .iload_n 2) (x' := (67, [(0, .ref a0), (1, .int p1), (2, .int p2), (3, .int x12), (4, .int x40)], [.int p2, .ref a0, .int x41, .ref a0], h7)) rfl rfl rfl ?_
            refine xle_next (i := .iload 4) (x' := (69, [(0, .ref a0), (1, .int p1), (2, .int p2), (3, .int x12), (4, .int x40)], [.int x40, .int p2, .ref a0, .int x41, .ref a0], h7)) rfl rfl rfl ?_
            refine xle_isO (i := .invokevirtual 216) (bq := a0) (ci := 6) (fo := (f_M_names z [.ref a0, .int p2, .int x40] h7).bind (xback 69 [(0, .ref a0), (1, .int p1), (2, .int p2), (3, .int x12), (4, .int x40)] [.int x41, .ref a0])) rfl rfl rfl (fun hs => ?_)
            refine xle_clI (t := [.int x41, .ref a0]) rfl rfl hs (fun x45 h44 => ?_)
            refine xle_next (i := .goto 10) (x' := (82, [(0, .ref a0), (1, .int p1), (2, .int p2), (3, .int x12), (4, .int x40)], [.int x45, .int x41, .ref a0], h44)) rfl rfl rfl ?_
            exact xle_jump rfl
      · exact xle_jump rfl
noncomputable def D_M_call_28 (z : xzs)  (h : xH) : Option xR :=
  some (.inl (some (.int (Int32.ofInt 0))), h)
set_option maxRecDepth 20000 in
theorem E_M_call_28 (z : xzs)  (h : xH) : xle (D_M_call_28 z  h) (B_M_call_28 z  h) := by
  unfold D_M_call_28 B_M_call_28
  refine xle_next (i := .iconst 0) (x' := (29, [], [.int (Int32.ofInt 0)], h)) rfl rfl rfl ?_
  exact xle_end (i := .ireturn) rfl rfl rfl
noncomputable def D_M_call_82 (z : xzs) (xs0 : Int32) (xs1 : Int32) (rs2 : Option Nat) (h : xH) : Option xR :=
  rs2.bind fun a46 =>
  (xisO h a46 6).bind fun _ => xclV (f_M_comes z [.ref a46, .int xs1, .int xs0, .int (Int32.ofInt 0), .int (Int32.ofInt (-1))] h) fun h47 =>
  some (.inl (some (.int (Int32.ofInt 2))), h47)
set_option maxRecDepth 20000 in
theorem E_M_call_82 (z : xzs) (xs0 : Int32) (xs1 : Int32) (rs2 : Option Nat) (h : xH) : xle (D_M_call_82 z xs0 xs1 rs2 h) (B_M_call_82 z xs0 xs1 rs2 h) := by
  unfold D_M_call_82 B_M_call_82
  refine xle_next (i := .iconst 0) (x' := (83, [], [.int (Int32.ofInt 0), .int xs0, .int xs1, va_rf rs2], h)) rfl rfl rfl ?_
  refine xle_next (i := .iconst (-1)) (x' := (84, [], [.int (Int32.ofInt (-1)), .int (Int32.ofInt 0), .int xs0, .int xs1, va_rf rs2], h)) rfl rfl rfl ?_
  refine xle_some (fun r_ => (84, [], [.int (Int32.ofInt (-1)), .int (Int32.ofInt 0), .int xs0, .int xs1, va_rf r_], h)) (fun a46 => ?_)
  refine xle_isO (i := .invokevirtual 202) (bq := a46) (ci := 6) (fo := (f_M_comes z [.ref a46, .int xs1, .int xs0, .int (Int32.ofInt 0), .int (Int32.ofInt (-1))] h).bind (xback 84 [] [])) rfl rfl rfl (fun hs => ?_)
  refine xle_clV (t := []) rfl rfl hs (fun h47 => ?_)
  refine xle_next (i := .iconst 2) (x' := (88, [], [.int (Int32.ofInt 2)], h47)) rfl rfl rfl ?_
  exact xle_end (i := .ireturn) rfl rfl rfl
noncomputable def B_M_receive_22 (z : xzs) (a0 : Nat) (xv1 : Int32) (xv2 : Int32) (rs0 : Option Nat) (h : xH) : Option xR := xev (K_M_receive z) (22, [(0, .ref a0), (1, .int xv1), (2, .int xv2)], [va_rf rs0], h)
noncomputable def B_M_receive_23 (z : xzs) (a0 : Nat) (xv1 : Int32) (xv2 : Int32) (xs0 : Int32) (rs1 : Option Nat) (h : xH) : Option xR := xev (K_M_receive z) (23, [(0, .ref a0), (1, .int xv1), (2, .int xv2)], [.int xs0, va_rf rs1], h)
noncomputable def B_M_receive_83 (z : xzs)  (h : xH) : Option xR := xev (K_M_receive z) (83, [], [], h)
noncomputable def B_M_receive_49 (z : xzs) (a0 : Nat) (xv2 : Int32) (h : xH) : Option xR := xev (K_M_receive z) (49, [(0, .ref a0), (2, .int xv2)], [], h)
noncomputable def B_M_receive_77 (z : xzs) (a0 : Nat) (xv2 : Int32) (xs0 : Int32) (rs1 : Option Nat) (h : xH) : Option xR := xev (K_M_receive z) (77, [(0, .ref a0), (2, .int xv2)], [.int xs0, va_rf rs1], h)
noncomputable def B_M_receive_115 (z : xzs) (a0 : Nat) (xs0 : Int32) (xs1 : Int32) (rs2 : Option Nat) (h : xH) : Option xR := xev (K_M_receive z) (115, [(0, .ref a0)], [.int xs0, .int xs1, va_rf rs2], h)
noncomputable def B_M_receive_216 (z : xzs)  (h : xH) : Option xR := xev (K_M_receive z) (216, [], [], h)
noncomputable def D_M_receive_0 (z : xzs) (a0 : Nat) (p1 : Int32) (p2 : Int32) (h : xH) : Option xR :=
  xclI (f_M_reaches z [.int p1] h) fun x2 h1 =>
  if x2 = 0 then
    B_M_receive_22 z a0 p1 p2 (some a0) h1
  else
    xclI (f_M_within z [.int p2, .int (Int32.ofInt (-1)), .int ((Int8.ofInt 71).toInt32)] h1) fun x4 h3 =>
    if x4 = 0 then
      B_M_receive_22 z a0 p1 p2 (some a0) h3
    else
      B_M_receive_23 z a0 p1 p2 (Int32.ofInt 1) (some a0) h3
set_option maxRecDepth 20000 in
theorem E_M_receive (z : xzs) (a0 : Nat) (p1 : Int32) (p2 : Int32) (h : xH) : xle (D_M_receive_0 z a0 p1 p2 h) (xfun (K_M_receive z) 4 [.ref a0, .int p1, .int p2] h) := by
  unfold D_M_receive_0
  refine xle_entry (Nat.le_of_ble_eq_true rfl) (xal_c (xca_a _) (xal_c (xca_i _) (xal_c (xca_i _) (rfl)))) ?_
  show xle _ (xev (K_M_receive z) (0, [(0, .ref a0), (1, .int p1), (2, .int p2)], [], h))
  refine xle_next (i := .aload_n 0) (x' := (1, [(0, .ref a0), (1, .int p1), (2, .int p2)], [.ref a0], h)) rfl rfl rfl ?_
  refine xle_next (i := .iload_n 1) (x' := (2, [(0, .ref a0), (1, .int p1), (2, .int p2)], [.int p1, .ref a0], h)) rfl rfl rfl ?_
  refine xle_clI (i := .invokestatic 173) (fo := f_M_reaches z [.int p1] h) (t := [.ref a0]) rfl rfl rfl (fun x2 h1 => ?_)
  refine xle_if (cd := .eq) (q := 22) rfl rfl rfl xc_eq (fun _ => ?_) (fun _ => ?_)
  · exact xle_jump rfl
  · refine xle_next (i := .iload_n 2) (x' := (9, [(0, .ref a0), (1, .int p1), (2, .int p2)], [.int p2, .ref a0], h1)) rfl rfl rfl ?_
    refine xle_next (i := .iconst (-1)) (x' := (10, [(0, .ref a0), (1, .int p1), (2, .int p2)], [.int (Int32.ofInt (-1)), .int p2, .ref a0], h1)) rfl rfl rfl ?_
    refine xle_next (i := .bipush 71) (x' := (12, [(0, .ref a0), (1, .int p1), (2, .int p2)], [.int ((Int8.ofInt 71).toInt32), .int (Int32.ofInt (-1)), .int p2, .ref a0], h1)) rfl rfl rfl ?_
    refine xle_clI (i := .invokestatic 169) (fo := f_M_within z [.int p2, .int (Int32.ofInt (-1)), .int ((Int8.ofInt 71).toInt32)] h1) (t := [.ref a0]) rfl rfl rfl (fun x4 h3 => ?_)
    refine xle_if (cd := .eq) (q := 22) rfl rfl rfl xc_eq (fun _ => ?_) (fun _ => ?_)
    · exact xle_jump rfl
    · refine xle_next (i := .iconst 1) (x' := (19, [(0, .ref a0), (1, .int p1), (2, .int p2)], [.int (Int32.ofInt 1), .ref a0], h3)) rfl rfl rfl ?_
      refine xle_next (i := .goto 4) (x' := (23, [(0, .ref a0), (1, .int p1), (2, .int p2)], [.int (Int32.ofInt 1), .ref a0], h3)) rfl rfl rfl ?_
      exact xle_jump rfl
noncomputable def D_M_receive_22 (z : xzs) (a0 : Nat) (xv1 : Int32) (xv2 : Int32) (rs0 : Option Nat) (h : xH) : Option xR :=
  B_M_receive_23 z a0 xv1 xv2 (Int32.ofInt 0) rs0 h
set_option maxRecDepth 20000 in
theorem E_M_receive_22 (z : xzs) (a0 : Nat) (xv1 : Int32) (xv2 : Int32) (rs0 : Option Nat) (h : xH) : xle (D_M_receive_22 z a0 xv1 xv2 rs0 h) (B_M_receive_22 z a0 xv1 xv2 rs0 h) := by
  unfold D_M_receive_22 B_M_receive_22
  refine xle_next (i := .iconst 0) (x' := (23, [(0, .ref a0), (1, .int xv1), (2, .int xv2)], [.int (Int32.ofInt 0), va_rf rs0], h)) rfl rfl rfl ?_
  exact xle_jump rfl
noncomputable def D_M_receive_23 (z : xzs) (a0 : Nat) (xv1 : Int32) (xv2 : Int32) (xs0 : Int32) (rs1 : Option Nat) (h : xH) : Option xR :=
  rs1.bind fun a5 =>
  (xisO h a5 6).bind fun _ => xclI (f_M_begins z [.ref a5, .int xs0] h) fun x7 h6 =>
  if x7 = 0 then
    B_M_receive_83 z h6
  else
    (xisO h6 a0 6).bind fun _ => xclI (f_M_has z [.ref a0, .int xv1] h6) fun x9 h8 =>
    if x9 = 0 then
      B_M_receive_83 z h8
    else
      if xv2 < 0 then
        B_M_receive_49 z a0 xv2 h8
      else
        (xisO h8 a0 6).bind fun _ => xclI (f_M_leads z [.ref a0, .int xv2] h8) fun x11 h10 =>
        if x11 = 0 then
          B_M_receive_83 z h10
        else
          B_M_receive_49 z a0 xv2 h10
set_option maxRecDepth 20000 in
theorem E_M_receive_23 (z : xzs) (a0 : Nat) (xv1 : Int32) (xv2 : Int32) (xs0 : Int32) (rs1 : Option Nat) (h : xH) : xle (D_M_receive_23 z a0 xv1 xv2 xs0 rs1 h) (B_M_receive_23 z a0 xv1 xv2 xs0 rs1 h) := by
  unfold D_M_receive_23 B_M_receive_23
  refine xle_some (fun r_ => (23, [(0, .ref a0), (1, .int xv1), (2, .int xv2)], [.int xs0, va_rf r_], h)) (fun a5 => ?_)
  refine xle_isO (i := .invokevirtual 177) (bq := a5) (ci := 6) (fo := (f_M_begins z [.ref a5, .int xs0] h).bind (xback 23 [(0, .ref a0), (1, .int xv1), (2, .int xv2)] [])) rfl rfl rfl (fun hs => ?_)
  refine xle_clI (t := []) rfl rfl hs (fun x7 h6 => ?_)
  refine xle_if (cd := .eq) (q := 83) rfl rfl rfl xc_eq (fun _ => ?_) (fun _ => ?_)
  · exact xle_jump rfl
  · refine xle_next (i := .aload_n 0) (x' := (30, [(0, .ref a0), (1, .int xv1), (2, .int xv2)], [.ref a0], h6)) rfl rfl rfl ?_
    refine xle_next (i := .iload_n 1) (x' := (31, [(0, .ref a0), (1, .int xv1), (2, .int xv2)], [.int xv1, .ref a0], h6)) rfl rfl rfl ?_
    refine xle_isO (i := .invokevirtual 181) (bq := a0) (ci := 6) (fo := (f_M_has z [.ref a0, .int xv1] h6).bind (xback 31 [(0, .ref a0), (1, .int xv1), (2, .int xv2)] [])) rfl rfl rfl (fun hs => ?_)
    refine xle_clI (t := []) rfl rfl hs (fun x9 h8 => ?_)
    refine xle_if (cd := .eq) (q := 83) rfl rfl rfl xc_eq (fun _ => ?_) (fun _ => ?_)
    · exact xle_jump rfl
    · refine xle_next (i := .iload_n 2) (x' := (38, [(0, .ref a0), (1, .int xv1), (2, .int xv2)], [.int xv2], h8)) rfl rfl rfl ?_
      refine xle_if (cd := .lt) (q := 49) rfl rfl rfl xc_lt (fun _ => ?_) (fun _ => ?_)
      · exact xle_jump rfl
      · refine xle_next (i := .aload_n 0) (x' := (42, [(0, .ref a0), (1, .int xv1), (2, .int xv2)], [.ref a0], h8)) rfl rfl rfl ?_
        refine xle_next (i := .iload_n 2) (x' := (43, [(0, .ref a0), (1, .int xv1), (2, .int xv2)], [.int xv2, .ref a0], h8)) rfl rfl rfl ?_
        refine xle_isO (i := .invokevirtual 184) (bq := a0) (ci := 6) (fo := (f_M_leads z [.ref a0, .int xv2] h8).bind (xback 43 [(0, .ref a0), (1, .int xv1), (2, .int xv2)] [])) rfl rfl rfl (fun hs => ?_)
        refine xle_clI (t := []) rfl rfl hs (fun x11 h10 => ?_)
        refine xle_if (cd := .eq) (q := 83) rfl rfl rfl xc_eq (fun _ => ?_) (fun _ => ?_)
        · exact xle_jump rfl
        · exact xle_jump rfl
noncomputable def D_M_receive_83 (z : xzs)  (h : xH) : Option xR :=
  some (.inl (some (.int (Int32.ofInt 0))), h)
set_option maxRecDepth 20000 in
theorem E_M_receive_83 (z : xzs)  (h : xH) : xle (D_M_receive_83 z  h) (B_M_receive_83 z  h) := by
  unfold D_M_receive_83 B_M_receive_83
  refine xle_next (i := .iconst 0) (x' := (84, [], [.int (Int32.ofInt 0)], h)) rfl rfl rfl ?_
  exact xle_end (i := .ireturn) rfl rfl rfl
noncomputable def D_M_receive_49 (z : xzs) (a0 : Nat) (xv2 : Int32) (h : xH) : Option xR :=
  (xisO h a0 6).bind fun _ => xclI (f_M_is z [.ref a0, .int (Int32.ofInt 1), .int (Int32.ofInt 1)] h) fun x13 h12 =>
  if x13 = 0 then
    B_M_receive_83 z h12
  else
    (rdR h12 a0 6 8).bind fun r14 =>
    (rdI h12 a0 6 39).bind fun x15 =>
    r14.bind fun a16 =>
    (rdA 0 h12 a16 x15).bind fun x17 =>
    if x17 ≤ (Int32.ofInt 1) then
      B_M_receive_77 z a0 xv2 (Int32.ofInt 0) (some a0) h12
    else
      B_M_receive_77 z a0 xv2 (Int32.ofInt 1) (some a0) h12
set_option maxRecDepth 20000 in
theorem E_M_receive_49 (z : xzs) (a0 : Nat) (xv2 : Int32) (h : xH) : xle (D_M_receive_49 z a0 xv2 h) (B_M_receive_49 z a0 xv2 h) := by
  unfold D_M_receive_49 B_M_receive_49
  refine xle_next (i := .aload_n 0) (x' := (50, [(0, .ref a0), (2, .int xv2)], [.ref a0], h)) rfl rfl rfl ?_
  refine xle_next (i := .iconst 1) (x' := (51, [(0, .ref a0), (2, .int xv2)], [.int (Int32.ofInt 1), .ref a0], h)) rfl rfl rfl ?_
  refine xle_next (i := .iconst 1) (x' := (52, [(0, .ref a0), (2, .int xv2)], [.int (Int32.ofInt 1), .int (Int32.ofInt 1), .ref a0], h)) rfl rfl rfl ?_
  refine xle_isO (i := .invokevirtual 199) (bq := a0) (ci := 6) (fo := (f_M_is z [.ref a0, .int (Int32.ofInt 1), .int (Int32.ofInt 1)] h).bind (xback 52 [(0, .ref a0), (2, .int xv2)] [])) rfl rfl rfl (fun hs => ?_)
  refine xle_clI (t := []) rfl rfl hs (fun x13 h12 => ?_)
  refine xle_if (cd := .eq) (q := 83) rfl rfl rfl xc_eq (fun _ => ?_) (fun _ => ?_)
  · exact xle_jump rfl
  · refine xle_next (i := .aload_n 0) (x' := (59, [(0, .ref a0), (2, .int xv2)], [.ref a0], h12)) rfl rfl rfl ?_
    refine xle_next (i := .aload_n 0) (x' := (60, [(0, .ref a0), (2, .int xv2)], [.ref a0, .ref a0], h12)) rfl rfl rfl ?_
    refine xle_getR (f := (6, 8, .array .int, 0)) rfl rfl rfl (fun r14 => ?_)
    refine xle_next (i := .aload_n 0) (x' := (64, [(0, .ref a0), (2, .int xv2)], [.ref a0, va_rf r14, .ref a0], h12)) rfl rfl rfl ?_
    refine xle_getI (f := (6, 39, .int, 1)) rfl rfl rfl (fun x15 => ?_)
    refine xle_some (fun r_ => (67, [(0, .ref a0), (2, .int xv2)], [.int x15, va_rf r_, .ref a0], h12)) (fun a16 => ?_)
    refine xle_iald rfl rfl (fun x17 => ?_)
    refine xle_next (i := .iconst 1) (x' := (69, [(0, .ref a0), (2, .int xv2)], [.int (Int32.ofInt 1), .int x17, .ref a0], h12)) rfl rfl rfl ?_
    refine xle_icmp (cd := .le) (q := 76) rfl rfl rfl xc_le (fun _ => ?_) (fun _ => ?_)
    · refine xle_next (i := .iconst 0) (x' := (77, [(0, .ref a0), (2, .int xv2)], [.int (Int32.ofInt 0), .ref a0], h12)) rfl rfl rfl ?_
      exact xle_jump rfl
    · refine xle_next (i := .iconst 1) (x' := (73, [(0, .ref a0), (2, .int xv2)], [.int (Int32.ofInt 1), .ref a0], h12)) rfl rfl rfl ?_
      refine xle_next (i := .goto 4) (x' := (77, [(0, .ref a0), (2, .int xv2)], [.int (Int32.ofInt 1), .ref a0], h12)) rfl rfl rfl ?_
      exact xle_jump rfl
noncomputable def D_M_receive_77 (z : xzs) (a0 : Nat) (xv2 : Int32) (xs0 : Int32) (rs1 : Option Nat) (h : xH) : Option xR :=
  rs1.bind fun a18 =>
  (xisO h a18 6).bind fun _ => xclI (f_M_so z [.ref a18, .int xs0] h) fun x20 h19 =>
  if ¬ x20 = 0 then
    (rdR h19 a0 6 27).bind fun r21 =>
    (rdI h19 a0 6 38).bind fun x22 =>
    r21.bind fun a23 =>
    (wrI h19 a23 x22 xv2).bind fun h24 =>
    (rdR h24 a0 6 41).bind fun r25 =>
    (rdI h24 a0 6 38).bind fun x26 =>
    if 0 ≤ xv2 then
      (rdI h24 a0 6 40).bind fun x27 =>
      B_M_receive_115 z a0 x27 x26 r25 h24
    else
      B_M_receive_115 z a0 (Int32.ofInt (-1)) x26 r25 h24
  else
    B_M_receive_83 z h19
set_option maxRecDepth 20000 in
theorem E_M_receive_77 (z : xzs) (a0 : Nat) (xv2 : Int32) (xs0 : Int32) (rs1 : Option Nat) (h : xH) : xle (D_M_receive_77 z a0 xv2 xs0 rs1 h) (B_M_receive_77 z a0 xv2 xs0 rs1 h) := by
  unfold D_M_receive_77 B_M_receive_77
  refine xle_some (fun r_ => (77, [(0, .ref a0), (2, .int xv2)], [.int xs0, va_rf r_], h)) (fun a18 => ?_)
  refine xle_isO (i := .invokevirtual 187) (bq := a18) (ci := 6) (fo := (f_M_so z [.ref a18, .int xs0] h).bind (xback 77 [(0, .ref a0), (2, .int xv2)] [])) rfl rfl rfl (fun hs => ?_)
  refine xle_clI (t := []) rfl rfl hs (fun x20 h19 => ?_)
  refine xle_if (cd := .ne) (q := 85) rfl rfl rfl xc_ne (fun _ => ?_) (fun _ => ?_)
  · refine xle_next (i := .aload_n 0) (x' := (86, [(0, .ref a0), (2, .int xv2)], [.ref a0], h19)) rfl rfl rfl ?_
    refine xle_getR (f := (6, 27, .array .int, 0)) rfl rfl rfl (fun r21 => ?_)
    refine xle_next (i := .aload_n 0) (x' := (90, [(0, .ref a0), (2, .int xv2)], [.ref a0, va_rf r21], h19)) rfl rfl rfl ?_
    refine xle_getI (f := (6, 38, .int, 1)) rfl rfl rfl (fun x22 => ?_)
    refine xle_next (i := .iload_n 2) (x' := (94, [(0, .ref a0), (2, .int xv2)], [.int xv2, .int x22, va_rf r21], h19)) rfl rfl rfl ?_
    refine xle_some (fun r_ => (94, [(0, .ref a0), (2, .int xv2)], [.int xv2, .int x22, va_rf r_], h19)) (fun a23 => ?_)
    refine xle_iast rfl rfl (fun h24 => ?_)
    refine xle_next (i := .aload_n 0) (x' := (96, [(0, .ref a0), (2, .int xv2)], [.ref a0], h24)) rfl rfl rfl ?_
    refine xle_getR (f := (6, 41, .array .int, 0)) rfl rfl rfl (fun r25 => ?_)
    refine xle_next (i := .aload_n 0) (x' := (100, [(0, .ref a0), (2, .int xv2)], [.ref a0, va_rf r25], h24)) rfl rfl rfl ?_
    refine xle_getI (f := (6, 38, .int, 1)) rfl rfl rfl (fun x26 => ?_)
    refine xle_next (i := .iload_n 2) (x' := (104, [(0, .ref a0), (2, .int xv2)], [.int xv2, .int x26, va_rf r25], h24)) rfl rfl rfl ?_
    refine xle_if (cd := .ge) (q := 111) rfl rfl rfl xc_ge (fun _ => ?_) (fun _ => ?_)
    · refine xle_next (i := .aload_n 0) (x' := (112, [(0, .ref a0), (2, .int xv2)], [.ref a0, .int x26, va_rf r25], h24)) rfl rfl rfl ?_
      refine xle_getI (f := (6, 40, .int, 1)) rfl rfl rfl (fun x27 => ?_)
      exact xle_jump rfl
    · refine xle_next (i := .iconst (-1)) (x' := (108, [(0, .ref a0), (2, .int xv2)], [.int (Int32.ofInt (-1)), .int x26, va_rf r25], h24)) rfl rfl rfl ?_
      refine xle_next (i := .goto 7) (x' := (115, [(0, .ref a0), (2, .int xv2)], [.int (Int32.ofInt (-1)), .int x26, va_rf r25], h24)) rfl rfl rfl ?_
      exact xle_jump rfl
  · exact xle_jump rfl
noncomputable def D_M_receive_115 (z : xzs) (a0 : Nat) (xs0 : Int32) (xs1 : Int32) (rs2 : Option Nat) (h : xH) : Option xR :=
  rs2.bind fun a28 =>
  (wrI h a28 xs1 xs0).bind fun h29 =>
  (rdR h29 a0 6 8).bind fun r30 =>
  (rdI h29 a0 6 39).bind fun x31 =>
  r30.bind fun a32 =>
  (rdA 0 h29 a32 x31).bind fun x33 =>
  (xisO h29 a0 6).bind fun _ => xclI (f_M_waiting z [.ref a0, .int x33, .int (Int32.ofInt 1), .int (Int32.ofInt 2)] h29) fun x35 h34 =>
  if ¬ x35 = 0 then
    (rdI h34 a0 6 38).bind fun x36 =>
    (rdR h34 a0 6 24).bind fun r37 =>
    r37.bind fun a38 =>
    (rdA 0 h34 a38 x35).bind fun x39 =>
    (rdR h34 a0 6 25).bind fun r40 =>
    r40.bind fun a41 =>
    (rdA 0 h34 a41 x35).bind fun x42 =>
    (rdR h34 a0 6 26).bind fun r43 =>
    r43.bind fun a44 =>
    (rdA 0 h34 a44 x35).bind fun x45 =>
    (xisO h34 a0 6).bind fun _ => xclV (f_M_deliver z [.ref a0, .int x36, .int x39, .int x42, .int x45] h34) fun h46 =>
    (rdR h46 a0 6 15).bind fun r47 =>
    r47.bind fun a48 =>
    (rdA 0 h46 a48 x35).bind fun x49 =>
    if ¬ x49 = (Int32.ofInt 2) then
      (rdR h46 a0 6 16).bind fun r50 =>
      r50.bind fun a51 =>
      (wrI h46 a51 x35 (Int32.ofInt 0)).bind fun h52 =>
      (xisO h52 a0 6).bind fun _ => xclV (f_M_ready z [.ref a0, .int x35] h52) fun h53 =>
      B_M_receive_216 z h53
    else
      (rdI h46 a0 6 38).bind fun x54 =>
      (xisO h46 a0 6).bind fun _ => xclV (f_M_asks z [.ref a0, .int x35, .int x54] h46) fun h55 =>
      B_M_receive_216 z h55
  else
    (rdI h34 a0 6 38).bind fun x56 =>
    (rdR h34 a0 6 8).bind fun r57 =>
    (rdI h34 a0 6 39).bind fun x58 =>
    r57.bind fun a59 =>
    (rdA 0 h34 a59 x58).bind fun x60 =>
    (xisO h34 a0 6).bind fun _ => xclV (f_M_waits z [.ref a0, .int x56, .int (Int32.ofInt 4), .int x60] h34) fun h61 =>
    some (.inl (some (.int (Int32.ofInt 1))), h61)
set_option maxRecDepth 20000 in
theorem E_M_receive_115 (z : xzs) (a0 : Nat) (xs0 : Int32) (xs1 : Int32) (rs2 : Option Nat) (h : xH) : xle (D_M_receive_115 z a0 xs0 xs1 rs2 h) (B_M_receive_115 z a0 xs0 xs1 rs2 h) := by
  unfold D_M_receive_115 B_M_receive_115
  refine xle_some (fun r_ => (115, [(0, .ref a0)], [.int xs0, .int xs1, va_rf r_], h)) (fun a28 => ?_)
  refine xle_iast rfl rfl (fun h29 => ?_)
  refine xle_next (i := .aload_n 0) (x' := (117, [(0, .ref a0)], [.ref a0], h29)) rfl rfl rfl ?_
  refine xle_next (i := .aload_n 0) (x' := (118, [(0, .ref a0)], [.ref a0, .ref a0], h29)) rfl rfl rfl ?_
  refine xle_getR (f := (6, 8, .array .int, 0)) rfl rfl rfl (fun r30 => ?_)
  refine xle_next (i := .aload_n 0) (x' := (122, [(0, .ref a0)], [.ref a0, va_rf r30, .ref a0], h29)) rfl rfl rfl ?_
  refine xle_getI (f := (6, 39, .int, 1)) rfl rfl rfl (fun x31 => ?_)
  refine xle_some (fun r_ => (125, [(0, .ref a0)], [.int x31, va_rf r_, .ref a0], h29)) (fun a32 => ?_)
  refine xle_iald rfl rfl (fun x33 => ?_)
  refine xle_next (i := .iconst 1) (x' := (127, [(0, .ref a0)], [.int (Int32.ofInt 1), .int x33, .ref a0], h29)) rfl rfl rfl ?_
  refine xle_next (i := .iconst 2) (x' := (128, [(0, .ref a0)], [.int (Int32.ofInt 2), .int (Int32.ofInt 1), .int x33, .ref a0], h29)) rfl rfl rfl ?_
  refine xle_isO (i := .invokevirtual 128) (bq := a0) (ci := 6) (fo := (f_M_waiting z [.ref a0, .int x33, .int (Int32.ofInt 1), .int (Int32.ofInt 2)] h29).bind (xback 128 [(0, .ref a0)] [])) rfl rfl rfl (fun hs => ?_)
  refine xle_clI (t := []) rfl rfl hs (fun x35 h34 => ?_)
  refine xle_next (i := .istore_n 3) (x' := (132, [(0, .ref a0), (3, .int x35)], [], h34)) rfl rfl rfl ?_
  refine xle_next (i := .iload_n 3) (x' := (133, [(0, .ref a0), (3, .int x35)], [.int x35], h34)) rfl rfl rfl ?_
  refine xle_if (cd := .ne) (q := 156) rfl rfl rfl xc_ne (fun _ => ?_) (fun _ => ?_)
  · refine xle_next (i := .aload_n 0) (x' := (157, [(0, .ref a0), (3, .int x35)], [.ref a0], h34)) rfl rfl rfl ?_
    refine xle_next (i := .aload_n 0) (x' := (158, [(0, .ref a0), (3, .int x35)], [.ref a0, .ref a0], h34)) rfl rfl rfl ?_
    refine xle_getI (f := (6, 38, .int, 1)) rfl rfl rfl (fun x36 => ?_)
    refine xle_next (i := .aload_n 0) (x' := (162, [(0, .ref a0), (3, .int x35)], [.ref a0, .int x36, .ref a0], h34)) rfl rfl rfl ?_
    refine xle_getR (f := (6, 24, .array .int, 0)) rfl rfl rfl (fun r37 => ?_)
    refine xle_next (i := .iload_n 3) (x' := (166, [(0, .ref a0), (3, .int x35)], [.int x35, va_rf r37, .int x36, .ref a0], h34)) rfl rfl rfl ?_
    refine xle_some (fun r_ => (166, [(0, .ref a0), (3, .int x35)], [.int x35, va_rf r_, .int x36, .ref a0], h34)) (fun a38 => ?_)
    refine xle_iald rfl rfl (fun x39 => ?_)
    refine xle_next (i := .aload_n 0) (x' := (168, [(0, .ref a0), (3, .int x35)], [.ref a0, .int x39, .int x36, .ref a0], h34)) rfl rfl rfl ?_
    refine xle_getR (f := (6, 25, .array .int, 0)) rfl rfl rfl (fun r40 => ?_)
    refine xle_next (i := .iload_n 3) (x' := (172, [(0, .ref a0), (3, .int x35)], [.int x35, va_rf r40, .int x39, .int x36, .ref a0], h34)) rfl rfl rfl ?_
    refine xle_some (fun r_ => (172, [(0, .ref a0), (3, .int x35)], [.int x35, va_rf r_, .int x39, .int x36, .ref a0], h34)) (fun a41 => ?_)
    refine xle_iald rfl rfl (fun x42 => ?_)
    refine xle_next (i := .aload_n 0) (x' := (174, [(0, .ref a0), (3, .int x35)], [.ref a0, .int x42, .int x39, .int x36, .ref a0], h34)) rfl rfl rfl ?_
    refine xle_getR (f := (6, 26, .array .int, 0)) rfl rfl rfl (fun r43 => ?_)
    refine xle_next (i := .iload_n 3) (x' := (178, [(0, .ref a0), (3, .int x35)], [.int x35, va_rf r43, .int x42, .int x39, .int x36, .ref a0], h34)) rfl rfl rfl ?_
    refine xle_some (fun r_ => (178, [(0, .ref a0), (3, .int x35)], [.int x35, va_rf r_, .int x42, .int x39, .int x36, .ref a0], h34)) (fun a44 => ?_)
    refine xle_iald rfl rfl (fun x45 => ?_)
    refine xle_isO (i := .invokevirtual 206) (bq := a0) (ci := 6) (fo := (f_M_deliver z [.ref a0, .int x36, .int x39, .int x42, .int x45] h34).bind (xback 179 [(0, .ref a0), (3, .int x35)] [])) rfl rfl rfl (fun hs => ?_)
    refine xle_clV (t := []) rfl rfl hs (fun h46 => ?_)
    refine xle_next (i := .aload_n 0) (x' := (183, [(0, .ref a0), (3, .int x35)], [.ref a0], h46)) rfl rfl rfl ?_
    refine xle_getR (f := (6, 15, .array .int, 0)) rfl rfl rfl (fun r47 => ?_)
    refine xle_next (i := .iload_n 3) (x' := (187, [(0, .ref a0), (3, .int x35)], [.int x35, va_rf r47], h46)) rfl rfl rfl ?_
    refine xle_some (fun r_ => (187, [(0, .ref a0), (3, .int x35)], [.int x35, va_rf r_], h46)) (fun a48 => ?_)
    refine xle_iald rfl rfl (fun x49 => ?_)
    refine xle_next (i := .iconst 2) (x' := (189, [(0, .ref a0), (3, .int x35)], [.int (Int32.ofInt 2), .int x49], h46)) rfl rfl rfl ?_
    refine xle_icmp (cd := .ne) (q := 204) rfl rfl rfl xc_ne (fun _ => ?_) (fun _ => ?_)
    · refine xle_next (i := .aload_n 0) (x' := (205, [(0, .ref a0), (3, .int x35)], [.ref a0], h46)) rfl rfl rfl ?_
      refine xle_getR (f := (6, 16, .array .int, 0)) rfl rfl rfl (fun r50 => ?_)
      refine xle_next (i := .iload_n 3) (x' := (209, [(0, .ref a0), (3, .int x35)], [.int x35, va_rf r50], h46)) rfl rfl rfl ?_
      refine xle_next (i := .iconst 0) (x' := (210, [(0, .ref a0), (3, .int x35)], [.int (Int32.ofInt 0), .int x35, va_rf r50], h46)) rfl rfl rfl ?_
      refine xle_some (fun r_ => (210, [(0, .ref a0), (3, .int x35)], [.int (Int32.ofInt 0), .int x35, va_rf r_], h46)) (fun a51 => ?_)
      refine xle_iast rfl rfl (fun h52 => ?_)
      refine xle_next (i := .aload_n 0) (x' := (212, [(0, .ref a0), (3, .int x35)], [.ref a0], h52)) rfl rfl rfl ?_
      refine xle_next (i := .iload_n 3) (x' := (213, [(0, .ref a0), (3, .int x35)], [.int x35, .ref a0], h52)) rfl rfl rfl ?_
      refine xle_isO (i := .invokevirtual 132) (bq := a0) (ci := 6) (fo := (f_M_ready z [.ref a0, .int x35] h52).bind (xback 213 [(0, .ref a0), (3, .int x35)] [])) rfl rfl rfl (fun hs => ?_)
      refine xle_clV (t := []) rfl rfl hs (fun h53 => ?_)
      exact xle_jump rfl
    · refine xle_next (i := .aload_n 0) (x' := (193, [(0, .ref a0), (3, .int x35)], [.ref a0], h46)) rfl rfl rfl ?_
      refine xle_next (i := .iload_n 3) (x' := (194, [(0, .ref a0), (3, .int x35)], [.int x35, .ref a0], h46)) rfl rfl rfl ?_
      refine xle_next (i := .aload_n 0) (x' := (195, [(0, .ref a0), (3, .int x35)], [.ref a0, .int x35, .ref a0], h46)) rfl rfl rfl ?_
      refine xle_getI (f := (6, 38, .int, 1)) rfl rfl rfl (fun x54 => ?_)
      refine xle_isO (i := .invokevirtual 222) (bq := a0) (ci := 6) (fo := (f_M_asks z [.ref a0, .int x35, .int x54] h46).bind (xback 198 [(0, .ref a0), (3, .int x35)] [])) rfl rfl rfl (fun hs => ?_)
      refine xle_clV (t := []) rfl rfl hs (fun h55 => ?_)
      refine xle_next (i := .goto 15) (x' := (216, [(0, .ref a0), (3, .int x35)], [], h55)) rfl rfl rfl ?_
      exact xle_jump rfl
  · refine xle_next (i := .aload_n 0) (x' := (137, [(0, .ref a0), (3, .int x35)], [.ref a0], h34)) rfl rfl rfl ?_
    refine xle_next (i := .aload_n 0) (x' := (138, [(0, .ref a0), (3, .int x35)], [.ref a0, .ref a0], h34)) rfl rfl rfl ?_
    refine xle_getI (f := (6, 38, .int, 1)) rfl rfl rfl (fun x56 => ?_)
    refine xle_next (i := .iconst 4) (x' := (142, [(0, .ref a0), (3, .int x35)], [.int (Int32.ofInt 4), .int x56, .ref a0], h34)) rfl rfl rfl ?_
    refine xle_next (i := .aload_n 0) (x' := (143, [(0, .ref a0), (3, .int x35)], [.ref a0, .int (Int32.ofInt 4), .int x56, .ref a0], h34)) rfl rfl rfl ?_
    refine xle_getR (f := (6, 8, .array .int, 0)) rfl rfl rfl (fun r57 => ?_)
    refine xle_next (i := .aload_n 0) (x' := (147, [(0, .ref a0), (3, .int x35)], [.ref a0, va_rf r57, .int (Int32.ofInt 4), .int x56, .ref a0], h34)) rfl rfl rfl ?_
    refine xle_getI (f := (6, 39, .int, 1)) rfl rfl rfl (fun x58 => ?_)
    refine xle_some (fun r_ => (150, [(0, .ref a0), (3, .int x35)], [.int x58, va_rf r_, .int (Int32.ofInt 4), .int x56, .ref a0], h34)) (fun a59 => ?_)
    refine xle_iald rfl rfl (fun x60 => ?_)
    refine xle_isO (i := .invokevirtual 213) (bq := a0) (ci := 6) (fo := (f_M_waits z [.ref a0, .int x56, .int (Int32.ofInt 4), .int x60] h34).bind (xback 151 [(0, .ref a0), (3, .int x35)] [])) rfl rfl rfl (fun hs => ?_)
    refine xle_clV (t := []) rfl rfl hs (fun h61 => ?_)
    refine xle_next (i := .iconst 1) (x' := (155, [(0, .ref a0), (3, .int x35)], [.int (Int32.ofInt 1)], h61)) rfl rfl rfl ?_
    exact xle_end (i := .ireturn) rfl rfl rfl
noncomputable def D_M_receive_216 (z : xzs)  (h : xH) : Option xR :=
  some (.inl (some (.int (Int32.ofInt 0))), h)
set_option maxRecDepth 20000 in
theorem E_M_receive_216 (z : xzs)  (h : xH) : xle (D_M_receive_216 z  h) (B_M_receive_216 z  h) := by
  unfold D_M_receive_216 B_M_receive_216
  refine xle_next (i := .iconst 0) (x' := (217, [], [.int (Int32.ofInt 0)], h)) rfl rfl rfl ?_
  exact xle_end (i := .ireturn) rfl rfl rfl
noncomputable def B_M_answer_57 (z : xzs) (a0 : Nat) (xv1 : Int32) (xv2 : Int32) (rs0 : Option Nat) (h : xH) : Option xR := xev (K_M_answer z) (57, [(0, .ref a0), (1, .int xv1), (2, .int xv2)], [va_rf rs0], h)
noncomputable def B_M_answer_58 (z : xzs) (a0 : Nat) (xv1 : Int32) (xv2 : Int32) (xs0 : Int32) (rs1 : Option Nat) (h : xH) : Option xR := xev (K_M_answer z) (58, [(0, .ref a0), (1, .int xv1), (2, .int xv2)], [.int xs0, va_rf rs1], h)
noncomputable def D_M_answer_0 (z : xzs) (a0 : Nat) (p1 : Int32) (h : xH) : Option xR :=
  (xisO h a0 6).bind fun _ => xclI (f_M_begins z [.ref a0, .int (Int32.ofInt 1)] h) fun x2 h1 =>
  if ¬ x2 = 0 then
    (rdR h1 a0 6 29).bind fun r3 =>
    (rdI h1 a0 6 38).bind fun x4 =>
    r3.bind fun a5 =>
    (rdA 0 h1 a5 x4).bind fun x6 =>
    if x6 ≤ 0 then
      B_M_answer_57 z a0 p1 x6 (some a0) h1
    else
      (rdR h1 a0 6 15).bind fun r7 =>
      r7.bind fun a8 =>
      (rdA 0 h1 a8 x6).bind fun x9 =>
      if ¬ x9 = (Int32.ofInt 3) then
        B_M_answer_57 z a0 p1 x6 (some a0) h1
      else
        (rdR h1 a0 6 28).bind fun r10 =>
        r10.bind fun a11 =>
        (rdA 0 h1 a11 x6).bind fun x12 =>
        (rdR h1 a0 6 30).bind fun r13 =>
        (rdI h1 a0 6 38).bind fun x14 =>
        r13.bind fun a15 =>
        (rdA 0 h1 a15 x14).bind fun x16 =>
        if ¬ x12 = x16 then
          B_M_answer_57 z a0 p1 x6 (some a0) h1
        else
          B_M_answer_58 z a0 p1 x6 (Int32.ofInt 1) (some a0) h1
  else
    some (.inl (some (.int (Int32.ofInt 0))), h1)
set_option maxRecDepth 20000 in
theorem E_M_answer (z : xzs) (a0 : Nat) (p1 : Int32) (h : xH) : xle (D_M_answer_0 z a0 p1 h) (xfun (K_M_answer z) 3 [.ref a0, .int p1] h) := by
  unfold D_M_answer_0
  refine xle_entry (Nat.le_of_ble_eq_true rfl) (xal_c (xca_a _) (xal_c (xca_i _) (rfl))) ?_
  show xle _ (xev (K_M_answer z) (0, [(0, .ref a0), (1, .int p1)], [], h))
  refine xle_next (i := .aload_n 0) (x' := (1, [(0, .ref a0), (1, .int p1)], [.ref a0], h)) rfl rfl rfl ?_
  refine xle_next (i := .iconst 1) (x' := (2, [(0, .ref a0), (1, .int p1)], [.int (Int32.ofInt 1), .ref a0], h)) rfl rfl rfl ?_
  refine xle_isO (i := .invokevirtual 177) (bq := a0) (ci := 6) (fo := (f_M_begins z [.ref a0, .int (Int32.ofInt 1)] h).bind (xback 2 [(0, .ref a0), (1, .int p1)] [])) rfl rfl rfl (fun hs => ?_)
  refine xle_clI (t := []) rfl rfl hs (fun x2 h1 => ?_)
  refine xle_if (cd := .ne) (q := 10) rfl rfl rfl xc_ne (fun _ => ?_) (fun _ => ?_)
  · refine xle_next (i := .aload_n 0) (x' := (11, [(0, .ref a0), (1, .int p1)], [.ref a0], h1)) rfl rfl rfl ?_
    refine xle_getR (f := (6, 29, .array .int, 0)) rfl rfl rfl (fun r3 => ?_)
    refine xle_next (i := .aload_n 0) (x' := (15, [(0, .ref a0), (1, .int p1)], [.ref a0, va_rf r3], h1)) rfl rfl rfl ?_
    refine xle_getI (f := (6, 38, .int, 1)) rfl rfl rfl (fun x4 => ?_)
    refine xle_some (fun r_ => (18, [(0, .ref a0), (1, .int p1)], [.int x4, va_rf r_], h1)) (fun a5 => ?_)
    refine xle_iald rfl rfl (fun x6 => ?_)
    refine xle_next (i := .istore_n 2) (x' := (20, [(0, .ref a0), (1, .int p1), (2, .int x6)], [], h1)) rfl rfl rfl ?_
    refine xle_next (i := .aload_n 0) (x' := (21, [(0, .ref a0), (1, .int p1), (2, .int x6)], [.ref a0], h1)) rfl rfl rfl ?_
    refine xle_next (i := .iload_n 2) (x' := (22, [(0, .ref a0), (1, .int p1), (2, .int x6)], [.int x6, .ref a0], h1)) rfl rfl rfl ?_
    refine xle_if (cd := .le) (q := 57) rfl rfl rfl xc_le (fun _ => ?_) (fun _ => ?_)
    · exact xle_jump rfl
    · refine xle_next (i := .aload_n 0) (x' := (26, [(0, .ref a0), (1, .int p1), (2, .int x6)], [.ref a0, .ref a0], h1)) rfl rfl rfl ?_
      refine xle_getR (f := (6, 15, .array .int, 0)) rfl rfl rfl (fun r7 => ?_)
      refine xle_next (i := .iload_n 2) (x' := (30, [(0, .ref a0), (1, .int p1), (2, .int x6)], [.int x6, va_rf r7, .ref a0], h1)) rfl rfl rfl ?_
      refine xle_some (fun r_ => (30, [(0, .ref a0), (1, .int p1), (2, .int x6)], [.int x6, va_rf r_, .ref a0], h1)) (fun a8 => ?_)
      refine xle_iald rfl rfl (fun x9 => ?_)
      refine xle_next (i := .iconst 3) (x' := (32, [(0, .ref a0), (1, .int p1), (2, .int x6)], [.int (Int32.ofInt 3), .int x9, .ref a0], h1)) rfl rfl rfl ?_
      refine xle_icmp (cd := .ne) (q := 57) rfl rfl rfl xc_ne (fun _ => ?_) (fun _ => ?_)
      · exact xle_jump rfl
      · refine xle_next (i := .aload_n 0) (x' := (36, [(0, .ref a0), (1, .int p1), (2, .int x6)], [.ref a0, .ref a0], h1)) rfl rfl rfl ?_
        refine xle_getR (f := (6, 28, .array .int, 0)) rfl rfl rfl (fun r10 => ?_)
        refine xle_next (i := .iload_n 2) (x' := (40, [(0, .ref a0), (1, .int p1), (2, .int x6)], [.int x6, va_rf r10, .ref a0], h1)) rfl rfl rfl ?_
        refine xle_some (fun r_ => (40, [(0, .ref a0), (1, .int p1), (2, .int x6)], [.int x6, va_rf r_, .ref a0], h1)) (fun a11 => ?_)
        refine xle_iald rfl rfl (fun x12 => ?_)
        refine xle_next (i := .aload_n 0) (x' := (42, [(0, .ref a0), (1, .int p1), (2, .int x6)], [.ref a0, .int x12, .ref a0], h1)) rfl rfl rfl ?_
        refine xle_getR (f := (6, 30, .array .int, 0)) rfl rfl rfl (fun r13 => ?_)
        refine xle_next (i := .aload_n 0) (x' := (46, [(0, .ref a0), (1, .int p1), (2, .int x6)], [.ref a0, va_rf r13, .int x12, .ref a0], h1)) rfl rfl rfl ?_
        refine xle_getI (f := (6, 38, .int, 1)) rfl rfl rfl (fun x14 => ?_)
        refine xle_some (fun r_ => (49, [(0, .ref a0), (1, .int p1), (2, .int x6)], [.int x14, va_rf r_, .int x12, .ref a0], h1)) (fun a15 => ?_)
        refine xle_iald rfl rfl (fun x16 => ?_)
        refine xle_icmp (cd := .ne) (q := 57) rfl rfl rfl xc_ne (fun _ => ?_) (fun _ => ?_)
        · exact xle_jump rfl
        · refine xle_next (i := .iconst 1) (x' := (54, [(0, .ref a0), (1, .int p1), (2, .int x6)], [.int (Int32.ofInt 1), .ref a0], h1)) rfl rfl rfl ?_
          refine xle_next (i := .goto 4) (x' := (58, [(0, .ref a0), (1, .int p1), (2, .int x6)], [.int (Int32.ofInt 1), .ref a0], h1)) rfl rfl rfl ?_
          exact xle_jump rfl
  · refine xle_next (i := .iconst 0) (x' := (9, [(0, .ref a0), (1, .int p1)], [.int (Int32.ofInt 0)], h1)) rfl rfl rfl ?_
    exact xle_end (i := .ireturn) rfl rfl rfl
noncomputable def D_M_answer_57 (z : xzs) (a0 : Nat) (xv1 : Int32) (xv2 : Int32) (rs0 : Option Nat) (h : xH) : Option xR :=
  B_M_answer_58 z a0 xv1 xv2 (Int32.ofInt 0) rs0 h
set_option maxRecDepth 20000 in
theorem E_M_answer_57 (z : xzs) (a0 : Nat) (xv1 : Int32) (xv2 : Int32) (rs0 : Option Nat) (h : xH) : xle (D_M_answer_57 z a0 xv1 xv2 rs0 h) (B_M_answer_57 z a0 xv1 xv2 rs0 h) := by
  unfold D_M_answer_57 B_M_answer_57
  refine xle_next (i := .iconst 0) (x' := (58, [(0, .ref a0), (1, .int xv1), (2, .int xv2)], [.int (Int32.ofInt 0), va_rf rs0], h)) rfl rfl rfl ?_
  exact xle_jump rfl
noncomputable def D_M_answer_58 (z : xzs) (a0 : Nat) (xv1 : Int32) (xv2 : Int32) (xs0 : Int32) (rs1 : Option Nat) (h : xH) : Option xR :=
  rs1.bind fun a17 =>
  (xisO h a17 6).bind fun _ => xclI (f_M_so z [.ref a17, .int xs0] h) fun x19 h18 =>
  if ¬ x19 = 0 then
    (xisO h18 a0 6).bind fun _ => xclV (f_M_comes z [.ref a0, .int xv2, .int xv1, .int (Int32.ofInt 0), .int (Int32.ofInt (-1))] h18) fun h20 =>
    (xisO h20 a0 6).bind fun _ => xclV (f_M_ready z [.ref a0, .int xv2] h20) fun h21 =>
    some (.inl (some (.int xv2)), h21)
  else
    some (.inl (some (.int (Int32.ofInt 0))), h18)
set_option maxRecDepth 20000 in
theorem E_M_answer_58 (z : xzs) (a0 : Nat) (xv1 : Int32) (xv2 : Int32) (xs0 : Int32) (rs1 : Option Nat) (h : xH) : xle (D_M_answer_58 z a0 xv1 xv2 xs0 rs1 h) (B_M_answer_58 z a0 xv1 xv2 xs0 rs1 h) := by
  unfold D_M_answer_58 B_M_answer_58
  refine xle_some (fun r_ => (58, [(0, .ref a0), (1, .int xv1), (2, .int xv2)], [.int xs0, va_rf r_], h)) (fun a17 => ?_)
  refine xle_isO (i := .invokevirtual 187) (bq := a17) (ci := 6) (fo := (f_M_so z [.ref a17, .int xs0] h).bind (xback 58 [(0, .ref a0), (1, .int xv1), (2, .int xv2)] [])) rfl rfl rfl (fun hs => ?_)
  refine xle_clI (t := []) rfl rfl hs (fun x19 h18 => ?_)
  refine xle_if (cd := .ne) (q := 66) rfl rfl rfl xc_ne (fun _ => ?_) (fun _ => ?_)
  · refine xle_next (i := .aload_n 0) (x' := (67, [(0, .ref a0), (1, .int xv1), (2, .int xv2)], [.ref a0], h18)) rfl rfl rfl ?_
    refine xle_next (i := .iload_n 2) (x' := (68, [(0, .ref a0), (1, .int xv1), (2, .int xv2)], [.int xv2, .ref a0], h18)) rfl rfl rfl ?_
    refine xle_next (i := .iload_n 1) (x' := (69, [(0, .ref a0), (1, .int xv1), (2, .int xv2)], [.int xv1, .int xv2, .ref a0], h18)) rfl rfl rfl ?_
    refine xle_next (i := .iconst 0) (x' := (70, [(0, .ref a0), (1, .int xv1), (2, .int xv2)], [.int (Int32.ofInt 0), .int xv1, .int xv2, .ref a0], h18)) rfl rfl rfl ?_
    refine xle_next (i := .iconst (-1)) (x' := (71, [(0, .ref a0), (1, .int xv1), (2, .int xv2)], [.int (Int32.ofInt (-1)), .int (Int32.ofInt 0), .int xv1, .int xv2, .ref a0], h18)) rfl rfl rfl ?_
    refine xle_isO (i := .invokevirtual 202) (bq := a0) (ci := 6) (fo := (f_M_comes z [.ref a0, .int xv2, .int xv1, .int (Int32.ofInt 0), .int (Int32.ofInt (-1))] h18).bind (xback 71 [(0, .ref a0), (1, .int xv1), (2, .int xv2)] [])) rfl rfl rfl (fun hs => ?_)
    refine xle_clV (t := []) rfl rfl hs (fun h20 => ?_)
    refine xle_next (i := .aload_n 0) (x' := (75, [(0, .ref a0), (1, .int xv1), (2, .int xv2)], [.ref a0], h20)) rfl rfl rfl ?_
    refine xle_next (i := .iload_n 2) (x' := (76, [(0, .ref a0), (1, .int xv1), (2, .int xv2)], [.int xv2, .ref a0], h20)) rfl rfl rfl ?_
    refine xle_isO (i := .invokevirtual 132) (bq := a0) (ci := 6) (fo := (f_M_ready z [.ref a0, .int xv2] h20).bind (xback 76 [(0, .ref a0), (1, .int xv1), (2, .int xv2)] [])) rfl rfl rfl (fun hs => ?_)
    refine xle_clV (t := []) rfl rfl hs (fun h21 => ?_)
    refine xle_next (i := .iload_n 2) (x' := (80, [(0, .ref a0), (1, .int xv1), (2, .int xv2)], [.int xv2], h21)) rfl rfl rfl ?_
    exact xle_end (i := .ireturn) rfl rfl rfl
  · refine xle_next (i := .iconst 0) (x' := (65, [(0, .ref a0), (1, .int xv1), (2, .int xv2)], [.int (Int32.ofInt 0)], h18)) rfl rfl rfl ?_
    exact xle_end (i := .ireturn) rfl rfl rfl
noncomputable def B_M_signal_28 (z : xzs)  (h : xH) : Option xR := xev (K_M_signal z) (28, [], [], h)
noncomputable def B_M_signal_72 (z : xzs) (a0 : Nat) (xv2 : Int32) (xs0 : Int32) (xs1 : Int32) (xs2 : Int32) (rs3 : Option Nat) (h : xH) : Option xR := xev (K_M_signal z) (72, [(0, .ref a0), (2, .int xv2)], [.int xs0, .int xs1, .int xs2, va_rf rs3], h)
noncomputable def B_M_signal_111 (z : xzs) (a0 : Nat) (xv2 : Int32) (h : xH) : Option xR := xev (K_M_signal z) (111, [(0, .ref a0), (2, .int xv2)], [], h)
noncomputable def B_M_signal_117 (z : xzs) (a0 : Nat) (xv2 : Int32) (xv4 : Int32) (xv5 : Int32) (h : xH) : Option xR := xev (K_M_signal z) (117, [(0, .ref a0), (2, .int xv2), (4, .int xv4), (5, .int xv5)], [], h)
noncomputable def B_M_signal_148 (z : xzs) (a0 : Nat) (xv2 : Int32) (xv4 : Int32) (xv5 : Int32) (h : xH) : Option xR := xev (K_M_signal z) (148, [(0, .ref a0), (2, .int xv2), (4, .int xv4), (5, .int xv5)], [], h)
noncomputable def D_M_signal_0 (z : xzs) (a0 : Nat) (p1 : Int32) (h : xH) : Option xR :=
  xclI (f_M_reaches z [.int p1] h) fun x2 h1 =>
  (xisO h1 a0 6).bind fun _ => xclI (f_M_begins z [.ref a0, .int x2] h1) fun x4 h3 =>
  if x4 = 0 then
    B_M_signal_28 z h3
  else
    (xisO h3 a0 6).bind fun _ => xclI (f_M_has z [.ref a0, .int p1] h3) fun x6 h5 =>
    if x6 = 0 then
      B_M_signal_28 z h5
    else
      (xisO h5 a0 6).bind fun _ => xclI (f_M_is z [.ref a0, .int (Int32.ofInt 2), .int (Int32.ofInt 2)] h5) fun x8 h7 =>
      if ¬ x8 = 0 then
        (rdR h7 a0 6 8).bind fun r9 =>
        (rdI h7 a0 6 39).bind fun x10 =>
        r9.bind fun a11 =>
        (rdA 0 h7 a11 x10).bind fun x12 =>
        (rdR h7 a0 6 4).bind fun r13 =>
        r13.bind fun a14 =>
        (rdA 0 h7 a14 x12).bind fun x15 =>
        (rdR h7 a0 6 10).bind fun r16 =>
        (rdI h7 a0 6 39).bind fun x17 =>
        r16.bind fun a18 =>
        (rdA 0 h7 a18 x17).bind fun x19 =>
        if ¬ x19 = 0 then
          (rdR h7 a0 6 10).bind fun r20 =>
          (rdI h7 a0 6 39).bind fun x21 =>
          r20.bind fun a22 =>
          (rdA 0 h7 a22 x21).bind fun x23 =>
          B_M_signal_72 z a0 x12 x23 x15 x12 (some a14) h7
        else
          B_M_signal_72 z a0 x12 (Int32.ofInt 1) x15 x12 (some a14) h7
      else
        B_M_signal_28 z h7
set_option maxRecDepth 20000 in
theorem E_M_signal (z : xzs) (a0 : Nat) (p1 : Int32) (h : xH) : xle (D_M_signal_0 z a0 p1 h) (xfun (K_M_signal z) 6 [.ref a0, .int p1] h) := by
  unfold D_M_signal_0
  refine xle_entry (Nat.le_of_ble_eq_true rfl) (xal_c (xca_a _) (xal_c (xca_i _) (rfl))) ?_
  show xle _ (xev (K_M_signal z) (0, [(0, .ref a0), (1, .int p1)], [], h))
  refine xle_next (i := .aload_n 0) (x' := (1, [(0, .ref a0), (1, .int p1)], [.ref a0], h)) rfl rfl rfl ?_
  refine xle_next (i := .iload_n 1) (x' := (2, [(0, .ref a0), (1, .int p1)], [.int p1, .ref a0], h)) rfl rfl rfl ?_
  refine xle_clI (i := .invokestatic 173) (fo := f_M_reaches z [.int p1] h) (t := [.ref a0]) rfl rfl rfl (fun x2 h1 => ?_)
  refine xle_isO (i := .invokevirtual 177) (bq := a0) (ci := 6) (fo := (f_M_begins z [.ref a0, .int x2] h1).bind (xback 5 [(0, .ref a0), (1, .int p1)] [])) rfl rfl rfl (fun hs => ?_)
  refine xle_clI (t := []) rfl rfl hs (fun x4 h3 => ?_)
  refine xle_if (cd := .eq) (q := 28) rfl rfl rfl xc_eq (fun _ => ?_) (fun _ => ?_)
  · exact xle_jump rfl
  · refine xle_next (i := .aload_n 0) (x' := (12, [(0, .ref a0), (1, .int p1)], [.ref a0], h3)) rfl rfl rfl ?_
    refine xle_next (i := .iload_n 1) (x' := (13, [(0, .ref a0), (1, .int p1)], [.int p1, .ref a0], h3)) rfl rfl rfl ?_
    refine xle_isO (i := .invokevirtual 181) (bq := a0) (ci := 6) (fo := (f_M_has z [.ref a0, .int p1] h3).bind (xback 13 [(0, .ref a0), (1, .int p1)] [])) rfl rfl rfl (fun hs => ?_)
    refine xle_clI (t := []) rfl rfl hs (fun x6 h5 => ?_)
    refine xle_if (cd := .eq) (q := 28) rfl rfl rfl xc_eq (fun _ => ?_) (fun _ => ?_)
    · exact xle_jump rfl
    · refine xle_next (i := .aload_n 0) (x' := (20, [(0, .ref a0), (1, .int p1)], [.ref a0], h5)) rfl rfl rfl ?_
      refine xle_next (i := .iconst 2) (x' := (21, [(0, .ref a0), (1, .int p1)], [.int (Int32.ofInt 2), .ref a0], h5)) rfl rfl rfl ?_
      refine xle_next (i := .iconst 2) (x' := (22, [(0, .ref a0), (1, .int p1)], [.int (Int32.ofInt 2), .int (Int32.ofInt 2), .ref a0], h5)) rfl rfl rfl ?_
      refine xle_isO (i := .invokevirtual 199) (bq := a0) (ci := 6) (fo := (f_M_is z [.ref a0, .int (Int32.ofInt 2), .int (Int32.ofInt 2)] h5).bind (xback 22 [(0, .ref a0), (1, .int p1)] [])) rfl rfl rfl (fun hs => ?_)
      refine xle_clI (t := []) rfl rfl hs (fun x8 h7 => ?_)
      refine xle_if (cd := .ne) (q := 30) rfl rfl rfl xc_ne (fun _ => ?_) (fun _ => ?_)
      · refine xle_next (i := .aload_n 0) (x' := (31, [(0, .ref a0), (1, .int p1)], [.ref a0], h7)) rfl rfl rfl ?_
        refine xle_getR (f := (6, 8, .array .int, 0)) rfl rfl rfl (fun r9 => ?_)
        refine xle_next (i := .aload_n 0) (x' := (35, [(0, .ref a0), (1, .int p1)], [.ref a0, va_rf r9], h7)) rfl rfl rfl ?_
        refine xle_getI (f := (6, 39, .int, 1)) rfl rfl rfl (fun x10 => ?_)
        refine xle_some (fun r_ => (38, [(0, .ref a0), (1, .int p1)], [.int x10, va_rf r_], h7)) (fun a11 => ?_)
        refine xle_iald rfl rfl (fun x12 => ?_)
        refine xle_next (i := .istore_n 2) (x' := (40, [(0, .ref a0), (1, .int p1), (2, .int x12)], [], h7)) rfl rfl rfl ?_
        refine xle_next (i := .aload_n 0) (x' := (41, [(0, .ref a0), (1, .int p1), (2, .int x12)], [.ref a0], h7)) rfl rfl rfl ?_
        refine xle_getR (f := (6, 4, .array .int, 0)) rfl rfl rfl (fun r13 => ?_)
        refine xle_next (i := .iload_n 2) (x' := (45, [(0, .ref a0), (1, .int p1), (2, .int x12)], [.int x12, va_rf r13], h7)) rfl rfl rfl ?_
        refine xle_some (fun r_ => (45, [(0, .ref a0), (1, .int p1), (2, .int x12)], [.int x12, va_rf r_], h7)) (fun a14 => ?_)
        refine xle_next (i := .dup2) (x' := (46, [(0, .ref a0), (1, .int p1), (2, .int x12)], [.int x12, .ref a14, .int x12, .ref a14], h7)) rfl rfl rfl ?_
        refine xle_iald rfl rfl (fun x15 => ?_)
        refine xle_next (i := .aload_n 0) (x' := (48, [(0, .ref a0), (1, .int p1), (2, .int x12)], [.ref a0, .int x15, .int x12, .ref a14], h7)) rfl rfl rfl ?_
        refine xle_getR (f := (6, 10, .array .int, 0)) rfl rfl rfl (fun r16 => ?_)
        refine xle_next (i := .aload_n 0) (x' := (52, [(0, .ref a0), (1, .int p1), (2, .int x12)], [.ref a0, va_rf r16, .int x15, .int x12, .ref a14], h7)) rfl rfl rfl ?_
        refine xle_getI (f := (6, 39, .int, 1)) rfl rfl rfl (fun x17 => ?_)
        refine xle_some (fun r_ => (55, [(0, .ref a0), (1, .int p1), (2, .int x12)], [.int x17, va_rf r_, .int x15, .int x12, .ref a14], h7)) (fun a18 => ?_)
        refine xle_iald rfl rfl (fun x19 => ?_)
        refine xle_if (cd := .ne) (q := 63) rfl rfl rfl xc_ne (fun _ => ?_) (fun _ => ?_)
        · refine xle_next (i := .aload_n 0) (x' := (64, [(0, .ref a0), (1, .int p1), (2, .int x12)], [.ref a0, .int x15, .int x12, .ref a14], h7)) rfl rfl rfl ?_
          refine xle_getR (f := (6, 10, .array .int, 0)) rfl rfl rfl (fun r20 => ?_)
          refine xle_next (i := .aload_n 0) (x' := (68, [(0, .ref a0), (1, .int p1), (2, .int x12)], [.ref a0, va_rf r20, .int x15, .int x12, .ref a14], h7)) rfl rfl rfl ?_
          refine xle_getI (f := (6, 39, .int, 1)) rfl rfl rfl (fun x21 => ?_)
          refine xle_some (fun r_ => (71, [(0, .ref a0), (1, .int p1), (2, .int x12)], [.int x21, va_rf r_, .int x15, .int x12, .ref a14], h7)) (fun a22 => ?_)
          refine xle_iald rfl rfl (fun x23 => ?_)
          exact xle_jump rfl
        · refine xle_next (i := .iconst 1) (x' := (60, [(0, .ref a0), (1, .int p1), (2, .int x12)], [.int (Int32.ofInt 1), .int x15, .int x12, .ref a14], h7)) rfl rfl rfl ?_
          refine xle_next (i := .goto 12) (x' := (72, [(0, .ref a0), (1, .int p1), (2, .int x12)], [.int (Int32.ofInt 1), .int x15, .int x12, .ref a14], h7)) rfl rfl rfl ?_
          exact xle_jump rfl
      · exact xle_jump rfl
noncomputable def D_M_signal_28 (z : xzs)  (h : xH) : Option xR :=
  some (.inl (some (.int (Int32.ofInt 0))), h)
set_option maxRecDepth 20000 in
theorem E_M_signal_28 (z : xzs)  (h : xH) : xle (D_M_signal_28 z  h) (B_M_signal_28 z  h) := by
  unfold D_M_signal_28 B_M_signal_28
  refine xle_next (i := .iconst 0) (x' := (29, [], [.int (Int32.ofInt 0)], h)) rfl rfl rfl ?_
  exact xle_end (i := .ireturn) rfl rfl rfl
noncomputable def D_M_signal_72 (z : xzs) (a0 : Nat) (xv2 : Int32) (xs0 : Int32) (xs1 : Int32) (xs2 : Int32) (rs3 : Option Nat) (h : xH) : Option xR :=
  rs3.bind fun a24 =>
  (wrI h a24 xs2 (xs1 ||| xs0)).bind fun h25 =>
  (xisO h25 a0 6).bind fun _ => xclI (f_M_waiting z [.ref a0, .int xv2, .int (Int32.ofInt 5), .int (Int32.ofInt 5)] h25) fun x27 h26 =>
  if x27 ≤ 0 then
    B_M_signal_111 z a0 xv2 h26
  else
    (rdR h26 a0 6 4).bind fun r28 =>
    r28.bind fun a29 =>
    (rdA 0 h26 a29 xv2).bind fun x30 =>
    (xisO h26 a0 6).bind fun _ => xclV (f_M_comes z [.ref a0, .int x27, .int x30, .int (Int32.ofInt 0), .int (Int32.ofInt (-1))] h26) fun h31 =>
    (rdR h31 a0 6 4).bind fun r32 =>
    r32.bind fun a33 =>
    (wrI h31 a33 xv2 (Int32.ofInt 0)).bind fun h34 =>
    (xisO h34 a0 6).bind fun _ => xclV (f_M_ready z [.ref a0, .int x27] h34) fun h35 =>
    B_M_signal_111 z a0 xv2 h35
set_option maxRecDepth 20000 in
theorem E_M_signal_72 (z : xzs) (a0 : Nat) (xv2 : Int32) (xs0 : Int32) (xs1 : Int32) (xs2 : Int32) (rs3 : Option Nat) (h : xH) : xle (D_M_signal_72 z a0 xv2 xs0 xs1 xs2 rs3 h) (B_M_signal_72 z a0 xv2 xs0 xs1 xs2 rs3 h) := by
  unfold D_M_signal_72 B_M_signal_72
  refine xle_next (i := .ior) (x' := (73, [(0, .ref a0), (2, .int xv2)], [.int (xs1 ||| xs0), .int xs2, va_rf rs3], h)) rfl rfl rfl ?_
  refine xle_some (fun r_ => (73, [(0, .ref a0), (2, .int xv2)], [.int (xs1 ||| xs0), .int xs2, va_rf r_], h)) (fun a24 => ?_)
  refine xle_iast rfl rfl (fun h25 => ?_)
  refine xle_next (i := .aload_n 0) (x' := (75, [(0, .ref a0), (2, .int xv2)], [.ref a0], h25)) rfl rfl rfl ?_
  refine xle_next (i := .iload_n 2) (x' := (76, [(0, .ref a0), (2, .int xv2)], [.int xv2, .ref a0], h25)) rfl rfl rfl ?_
  refine xle_next (i := .iconst 5) (x' := (77, [(0, .ref a0), (2, .int xv2)], [.int (Int32.ofInt 5), .int xv2, .ref a0], h25)) rfl rfl rfl ?_
  refine xle_next (i := .iconst 5) (x' := (78, [(0, .ref a0), (2, .int xv2)], [.int (Int32.ofInt 5), .int (Int32.ofInt 5), .int xv2, .ref a0], h25)) rfl rfl rfl ?_
  refine xle_isO (i := .invokevirtual 128) (bq := a0) (ci := 6) (fo := (f_M_waiting z [.ref a0, .int xv2, .int (Int32.ofInt 5), .int (Int32.ofInt 5)] h25).bind (xback 78 [(0, .ref a0), (2, .int xv2)] [])) rfl rfl rfl (fun hs => ?_)
  refine xle_clI (t := []) rfl rfl hs (fun x27 h26 => ?_)
  refine xle_next (i := .istore_n 3) (x' := (82, [(0, .ref a0), (2, .int xv2), (3, .int x27)], [], h26)) rfl rfl rfl ?_
  refine xle_next (i := .iload_n 3) (x' := (83, [(0, .ref a0), (2, .int xv2), (3, .int x27)], [.int x27], h26)) rfl rfl rfl ?_
  refine xle_if (cd := .le) (q := 111) rfl rfl rfl xc_le (fun _ => ?_) (fun _ => ?_)
  · exact xle_jump rfl
  · refine xle_next (i := .aload_n 0) (x' := (87, [(0, .ref a0), (2, .int xv2), (3, .int x27)], [.ref a0], h26)) rfl rfl rfl ?_
    refine xle_next (i := .iload_n 3) (x' := (88, [(0, .ref a0), (2, .int xv2), (3, .int x27)], [.int x27, .ref a0], h26)) rfl rfl rfl ?_
    refine xle_next (i := .aload_n 0) (x' := (89, [(0, .ref a0), (2, .int xv2), (3, .int x27)], [.ref a0, .int x27, .ref a0], h26)) rfl rfl rfl ?_
    refine xle_getR (f := (6, 4, .array .int, 0)) rfl rfl rfl (fun r28 => ?_)
    refine xle_next (i := .iload_n 2) (x' := (93, [(0, .ref a0), (2, .int xv2), (3, .int x27)], [.int xv2, va_rf r28, .int x27, .ref a0], h26)) rfl rfl rfl ?_
    refine xle_some (fun r_ => (93, [(0, .ref a0), (2, .int xv2), (3, .int x27)], [.int xv2, va_rf r_, .int x27, .ref a0], h26)) (fun a29 => ?_)
    refine xle_iald rfl rfl (fun x30 => ?_)
    refine xle_next (i := .iconst 0) (x' := (95, [(0, .ref a0), (2, .int xv2), (3, .int x27)], [.int (Int32.ofInt 0), .int x30, .int x27, .ref a0], h26)) rfl rfl rfl ?_
    refine xle_next (i := .iconst (-1)) (x' := (96, [(0, .ref a0), (2, .int xv2), (3, .int x27)], [.int (Int32.ofInt (-1)), .int (Int32.ofInt 0), .int x30, .int x27, .ref a0], h26)) rfl rfl rfl ?_
    refine xle_isO (i := .invokevirtual 202) (bq := a0) (ci := 6) (fo := (f_M_comes z [.ref a0, .int x27, .int x30, .int (Int32.ofInt 0), .int (Int32.ofInt (-1))] h26).bind (xback 96 [(0, .ref a0), (2, .int xv2), (3, .int x27)] [])) rfl rfl rfl (fun hs => ?_)
    refine xle_clV (t := []) rfl rfl hs (fun h31 => ?_)
    refine xle_next (i := .aload_n 0) (x' := (100, [(0, .ref a0), (2, .int xv2), (3, .int x27)], [.ref a0], h31)) rfl rfl rfl ?_
    refine xle_getR (f := (6, 4, .array .int, 0)) rfl rfl rfl (fun r32 => ?_)
    refine xle_next (i := .iload_n 2) (x' := (104, [(0, .ref a0), (2, .int xv2), (3, .int x27)], [.int xv2, va_rf r32], h31)) rfl rfl rfl ?_
    refine xle_next (i := .iconst 0) (x' := (105, [(0, .ref a0), (2, .int xv2), (3, .int x27)], [.int (Int32.ofInt 0), .int xv2, va_rf r32], h31)) rfl rfl rfl ?_
    refine xle_some (fun r_ => (105, [(0, .ref a0), (2, .int xv2), (3, .int x27)], [.int (Int32.ofInt 0), .int xv2, va_rf r_], h31)) (fun a33 => ?_)
    refine xle_iast rfl rfl (fun h34 => ?_)
    refine xle_next (i := .aload_n 0) (x' := (107, [(0, .ref a0), (2, .int xv2), (3, .int x27)], [.ref a0], h34)) rfl rfl rfl ?_
    refine xle_next (i := .iload_n 3) (x' := (108, [(0, .ref a0), (2, .int xv2), (3, .int x27)], [.int x27, .ref a0], h34)) rfl rfl rfl ?_
    refine xle_isO (i := .invokevirtual 132) (bq := a0) (ci := 6) (fo := (f_M_ready z [.ref a0, .int x27] h34).bind (xback 108 [(0, .ref a0), (2, .int xv2), (3, .int x27)] [])) rfl rfl rfl (fun hs => ?_)
    refine xle_clV (t := []) rfl rfl hs (fun h35 => ?_)
    exact xle_jump rfl
noncomputable def D_M_signal_111 (z : xzs) (a0 : Nat) (xv2 : Int32) (h : xH) : Option xR :=
  B_M_signal_117 z a0 xv2 (Int32.ofInt 0) (Int32.ofInt 1) h
set_option maxRecDepth 20000 in
theorem E_M_signal_111 (z : xzs) (a0 : Nat) (xv2 : Int32) (h : xH) : xle (D_M_signal_111 z a0 xv2 h) (B_M_signal_111 z a0 xv2 h) := by
  unfold D_M_signal_111 B_M_signal_111
  refine xle_next (i := .iconst 0) (x' := (112, [(0, .ref a0), (2, .int xv2)], [.int (Int32.ofInt 0)], h)) rfl rfl rfl ?_
  refine xle_next (i := .istore 4) (x' := (114, [(0, .ref a0), (2, .int xv2), (4, .int (Int32.ofInt 0))], [], h)) rfl rfl rfl ?_
  refine xle_next (i := .iconst 1) (x' := (115, [(0, .ref a0), (2, .int xv2), (4, .int (Int32.ofInt 0))], [.int (Int32.ofInt 1)], h)) rfl rfl rfl ?_
  refine xle_next (i := .istore 5) (x' := (117, [(0, .ref a0), (2, .int xv2), (4, .int (Int32.ofInt 0)), (5, .int (Int32.ofInt 1))], [], h)) rfl rfl rfl ?_
  exact xle_jump rfl
noncomputable def D_M_signal_117 (z : xzs) (a0 : Nat) (xv2 : Int32) (xv4 : Int32) (xv5 : Int32) (h : xH) : Option xR :=
  if (Int32.ofInt 4) ≤ xv5 then
    some (.inl (some (.int xv4)), h)
  else
    (rdR h a0 6 15).bind fun r36 =>
    r36.bind fun a37 =>
    (rdA 0 h a37 xv5).bind fun x38 =>
    if ¬ x38 = (Int32.ofInt 5) then
      B_M_signal_148 z a0 xv2 xv4 xv5 h
    else
      (rdR h a0 6 22).bind fun r39 =>
      r39.bind fun a40 =>
      (rdA 0 h a40 xv5).bind fun x41 =>
      if ¬ x41 = xv2 then
        B_M_signal_148 z a0 xv2 xv4 xv5 h
      else
        B_M_signal_148 z a0 xv2 (xv4 + Int32.ofInt 1) xv5 h
set_option maxRecDepth 20000 in
theorem E_M_signal_117 (z : xzs) (a0 : Nat) (xv2 : Int32) (xv4 : Int32) (xv5 : Int32) (h : xH) : xle (D_M_signal_117 z a0 xv2 xv4 xv5 h) (B_M_signal_117 z a0 xv2 xv4 xv5 h) := by
  unfold D_M_signal_117 B_M_signal_117
  refine xle_next (i := .iload 5) (x' := (119, [(0, .ref a0), (2, .int xv2), (4, .int xv4), (5, .int xv5)], [.int xv5], h)) rfl rfl rfl ?_
  refine xle_next (i := .iconst 4) (x' := (120, [(0, .ref a0), (2, .int xv2), (4, .int xv4), (5, .int xv5)], [.int (Int32.ofInt 4), .int xv5], h)) rfl rfl rfl ?_
  refine xle_icmp (cd := .ge) (q := 154) rfl rfl rfl xc_ge (fun _ => ?_) (fun _ => ?_)
  · refine xle_next (i := .iload 4) (x' := (156, [(0, .ref a0), (2, .int xv2), (4, .int xv4), (5, .int xv5)], [.int xv4], h)) rfl rfl rfl ?_
    exact xle_end (i := .ireturn) rfl rfl rfl
  · refine xle_next (i := .aload_n 0) (x' := (124, [(0, .ref a0), (2, .int xv2), (4, .int xv4), (5, .int xv5)], [.ref a0], h)) rfl rfl rfl ?_
    refine xle_getR (f := (6, 15, .array .int, 0)) rfl rfl rfl (fun r36 => ?_)
    refine xle_next (i := .iload 5) (x' := (129, [(0, .ref a0), (2, .int xv2), (4, .int xv4), (5, .int xv5)], [.int xv5, va_rf r36], h)) rfl rfl rfl ?_
    refine xle_some (fun r_ => (129, [(0, .ref a0), (2, .int xv2), (4, .int xv4), (5, .int xv5)], [.int xv5, va_rf r_], h)) (fun a37 => ?_)
    refine xle_iald rfl rfl (fun x38 => ?_)
    refine xle_next (i := .iconst 5) (x' := (131, [(0, .ref a0), (2, .int xv2), (4, .int xv4), (5, .int xv5)], [.int (Int32.ofInt 5), .int x38], h)) rfl rfl rfl ?_
    refine xle_icmp (cd := .ne) (q := 148) rfl rfl rfl xc_ne (fun _ => ?_) (fun _ => ?_)
    · exact xle_jump rfl
    · refine xle_next (i := .aload_n 0) (x' := (135, [(0, .ref a0), (2, .int xv2), (4, .int xv4), (5, .int xv5)], [.ref a0], h)) rfl rfl rfl ?_
      refine xle_getR (f := (6, 22, .array .int, 0)) rfl rfl rfl (fun r39 => ?_)
      refine xle_next (i := .iload 5) (x' := (140, [(0, .ref a0), (2, .int xv2), (4, .int xv4), (5, .int xv5)], [.int xv5, va_rf r39], h)) rfl rfl rfl ?_
      refine xle_some (fun r_ => (140, [(0, .ref a0), (2, .int xv2), (4, .int xv4), (5, .int xv5)], [.int xv5, va_rf r_], h)) (fun a40 => ?_)
      refine xle_iald rfl rfl (fun x41 => ?_)
      refine xle_next (i := .iload_n 2) (x' := (142, [(0, .ref a0), (2, .int xv2), (4, .int xv4), (5, .int xv5)], [.int xv2, .int x41], h)) rfl rfl rfl ?_
      refine xle_icmp (cd := .ne) (q := 148) rfl rfl rfl xc_ne (fun _ => ?_) (fun _ => ?_)
      · exact xle_jump rfl
      · refine xle_next (i := .iinc 4 1) (x' := (148, [(0, .ref a0), (2, .int xv2), (4, .int (xv4 + Int32.ofInt 1)), (5, .int xv5)], [], h)) rfl rfl rfl ?_
        exact xle_jump rfl
noncomputable def D_M_signal_148 (z : xzs) (a0 : Nat) (xv2 : Int32) (xv4 : Int32) (xv5 : Int32) (h : xH) : Option xR :=
  B_M_signal_117 z a0 xv2 xv4 (xv5 + Int32.ofInt 1) h
set_option maxRecDepth 20000 in
theorem E_M_signal_148 (z : xzs) (a0 : Nat) (xv2 : Int32) (xv4 : Int32) (xv5 : Int32) (h : xH) : xle (D_M_signal_148 z a0 xv2 xv4 xv5 h) (B_M_signal_148 z a0 xv2 xv4 xv5 h) := by
  unfold D_M_signal_148 B_M_signal_148
  refine xle_next (i := .iinc 5 1) (x' := (151, [(0, .ref a0), (2, .int xv2), (4, .int xv4), (5, .int (xv5 + Int32.ofInt 1))], [], h)) rfl rfl rfl ?_
  refine xle_next (i := .goto (-34)) (x' := (117, [(0, .ref a0), (2, .int xv2), (4, .int xv4), (5, .int (xv5 + Int32.ofInt 1))], [], h)) rfl rfl rfl ?_
  exact xle_jump rfl
noncomputable def B_M_await_28 (z : xzs)  (h : xH) : Option xR := xev (K_M_await z) (28, [], [], h)
noncomputable def D_M_await_0 (z : xzs) (a0 : Nat) (p1 : Int32) (h : xH) : Option xR :=
  xclI (f_M_reaches z [.int p1] h) fun x2 h1 =>
  (xisO h1 a0 6).bind fun _ => xclI (f_M_begins z [.ref a0, .int x2] h1) fun x4 h3 =>
  if x4 = 0 then
    B_M_await_28 z h3
  else
    (xisO h3 a0 6).bind fun _ => xclI (f_M_has z [.ref a0, .int p1] h3) fun x6 h5 =>
    if x6 = 0 then
      B_M_await_28 z h5
    else
      (xisO h5 a0 6).bind fun _ => xclI (f_M_is z [.ref a0, .int (Int32.ofInt 2), .int (Int32.ofInt 1)] h5) fun x8 h7 =>
      if ¬ x8 = 0 then
        (rdR h7 a0 6 8).bind fun r9 =>
        (rdI h7 a0 6 39).bind fun x10 =>
        r9.bind fun a11 =>
        (rdA 0 h7 a11 x10).bind fun x12 =>
        (rdR h7 a0 6 4).bind fun r13 =>
        r13.bind fun a14 =>
        (rdA 0 h7 a14 x12).bind fun x15 =>
        if ¬ x15 = 0 then
          (rdI h7 a0 6 38).bind fun x16 =>
          (rdR h7 a0 6 4).bind fun r17 =>
          r17.bind fun a18 =>
          (rdA 0 h7 a18 x12).bind fun x19 =>
          (xisO h7 a0 6).bind fun _ => xclV (f_M_comes z [.ref a0, .int x16, .int x19, .int (Int32.ofInt 0), .int (Int32.ofInt (-1))] h7) fun h20 =>
          (rdR h20 a0 6 4).bind fun r21 =>
          r21.bind fun a22 =>
          (wrI h20 a22 x12 (Int32.ofInt 0)).bind fun h23 =>
          some (.inl (some (.int (Int32.ofInt 0))), h23)
        else
          (rdI h7 a0 6 38).bind fun x24 =>
          (xisO h7 a0 6).bind fun _ => xclV (f_M_waits z [.ref a0, .int x24, .int (Int32.ofInt 5), .int x12] h7) fun h25 =>
          some (.inl (some (.int (Int32.ofInt 1))), h25)
      else
        B_M_await_28 z h7
set_option maxRecDepth 20000 in
theorem E_M_await (z : xzs) (a0 : Nat) (p1 : Int32) (h : xH) : xle (D_M_await_0 z a0 p1 h) (xfun (K_M_await z) 3 [.ref a0, .int p1] h) := by
  unfold D_M_await_0
  refine xle_entry (Nat.le_of_ble_eq_true rfl) (xal_c (xca_a _) (xal_c (xca_i _) (rfl))) ?_
  show xle _ (xev (K_M_await z) (0, [(0, .ref a0), (1, .int p1)], [], h))
  refine xle_next (i := .aload_n 0) (x' := (1, [(0, .ref a0), (1, .int p1)], [.ref a0], h)) rfl rfl rfl ?_
  refine xle_next (i := .iload_n 1) (x' := (2, [(0, .ref a0), (1, .int p1)], [.int p1, .ref a0], h)) rfl rfl rfl ?_
  refine xle_clI (i := .invokestatic 173) (fo := f_M_reaches z [.int p1] h) (t := [.ref a0]) rfl rfl rfl (fun x2 h1 => ?_)
  refine xle_isO (i := .invokevirtual 177) (bq := a0) (ci := 6) (fo := (f_M_begins z [.ref a0, .int x2] h1).bind (xback 5 [(0, .ref a0), (1, .int p1)] [])) rfl rfl rfl (fun hs => ?_)
  refine xle_clI (t := []) rfl rfl hs (fun x4 h3 => ?_)
  refine xle_if (cd := .eq) (q := 28) rfl rfl rfl xc_eq (fun _ => ?_) (fun _ => ?_)
  · exact xle_jump rfl
  · refine xle_next (i := .aload_n 0) (x' := (12, [(0, .ref a0), (1, .int p1)], [.ref a0], h3)) rfl rfl rfl ?_
    refine xle_next (i := .iload_n 1) (x' := (13, [(0, .ref a0), (1, .int p1)], [.int p1, .ref a0], h3)) rfl rfl rfl ?_
    refine xle_isO (i := .invokevirtual 181) (bq := a0) (ci := 6) (fo := (f_M_has z [.ref a0, .int p1] h3).bind (xback 13 [(0, .ref a0), (1, .int p1)] [])) rfl rfl rfl (fun hs => ?_)
    refine xle_clI (t := []) rfl rfl hs (fun x6 h5 => ?_)
    refine xle_if (cd := .eq) (q := 28) rfl rfl rfl xc_eq (fun _ => ?_) (fun _ => ?_)
    · exact xle_jump rfl
    · refine xle_next (i := .aload_n 0) (x' := (20, [(0, .ref a0), (1, .int p1)], [.ref a0], h5)) rfl rfl rfl ?_
      refine xle_next (i := .iconst 2) (x' := (21, [(0, .ref a0), (1, .int p1)], [.int (Int32.ofInt 2), .ref a0], h5)) rfl rfl rfl ?_
      refine xle_next (i := .iconst 1) (x' := (22, [(0, .ref a0), (1, .int p1)], [.int (Int32.ofInt 1), .int (Int32.ofInt 2), .ref a0], h5)) rfl rfl rfl ?_
      refine xle_isO (i := .invokevirtual 199) (bq := a0) (ci := 6) (fo := (f_M_is z [.ref a0, .int (Int32.ofInt 2), .int (Int32.ofInt 1)] h5).bind (xback 22 [(0, .ref a0), (1, .int p1)] [])) rfl rfl rfl (fun hs => ?_)
      refine xle_clI (t := []) rfl rfl hs (fun x8 h7 => ?_)
      refine xle_if (cd := .ne) (q := 30) rfl rfl rfl xc_ne (fun _ => ?_) (fun _ => ?_)
      · refine xle_next (i := .aload_n 0) (x' := (31, [(0, .ref a0), (1, .int p1)], [.ref a0], h7)) rfl rfl rfl ?_
        refine xle_getR (f := (6, 8, .array .int, 0)) rfl rfl rfl (fun r9 => ?_)
        refine xle_next (i := .aload_n 0) (x' := (35, [(0, .ref a0), (1, .int p1)], [.ref a0, va_rf r9], h7)) rfl rfl rfl ?_
        refine xle_getI (f := (6, 39, .int, 1)) rfl rfl rfl (fun x10 => ?_)
        refine xle_some (fun r_ => (38, [(0, .ref a0), (1, .int p1)], [.int x10, va_rf r_], h7)) (fun a11 => ?_)
        refine xle_iald rfl rfl (fun x12 => ?_)
        refine xle_next (i := .istore_n 2) (x' := (40, [(0, .ref a0), (1, .int p1), (2, .int x12)], [], h7)) rfl rfl rfl ?_
        refine xle_next (i := .aload_n 0) (x' := (41, [(0, .ref a0), (1, .int p1), (2, .int x12)], [.ref a0], h7)) rfl rfl rfl ?_
        refine xle_getR (f := (6, 4, .array .int, 0)) rfl rfl rfl (fun r13 => ?_)
        refine xle_next (i := .iload_n 2) (x' := (45, [(0, .ref a0), (1, .int p1), (2, .int x12)], [.int x12, va_rf r13], h7)) rfl rfl rfl ?_
        refine xle_some (fun r_ => (45, [(0, .ref a0), (1, .int p1), (2, .int x12)], [.int x12, va_rf r_], h7)) (fun a14 => ?_)
        refine xle_iald rfl rfl (fun x15 => ?_)
        refine xle_if (cd := .ne) (q := 61) rfl rfl rfl xc_ne (fun _ => ?_) (fun _ => ?_)
        · refine xle_next (i := .aload_n 0) (x' := (62, [(0, .ref a0), (1, .int p1), (2, .int x12)], [.ref a0], h7)) rfl rfl rfl ?_
          refine xle_next (i := .aload_n 0) (x' := (63, [(0, .ref a0), (1, .int p1), (2, .int x12)], [.ref a0, .ref a0], h7)) rfl rfl rfl ?_
          refine xle_getI (f := (6, 38, .int, 1)) rfl rfl rfl (fun x16 => ?_)
          refine xle_next (i := .aload_n 0) (x' := (67, [(0, .ref a0), (1, .int p1), (2, .int x12)], [.ref a0, .int x16, .ref a0], h7)) rfl rfl rfl ?_
          refine xle_getR (f := (6, 4, .array .int, 0)) rfl rfl rfl (fun r17 => ?_)
          refine xle_next (i := .iload_n 2) (x' := (71, [(0, .ref a0), (1, .int p1), (2, .int x12)], [.int x12, va_rf r17, .int x16, .ref a0], h7)) rfl rfl rfl ?_
          refine xle_some (fun r_ => (71, [(0, .ref a0), (1, .int p1), (2, .int x12)], [.int x12, va_rf r_, .int x16, .ref a0], h7)) (fun a18 => ?_)
          refine xle_iald rfl rfl (fun x19 => ?_)
          refine xle_next (i := .iconst 0) (x' := (73, [(0, .ref a0), (1, .int p1), (2, .int x12)], [.int (Int32.ofInt 0), .int x19, .int x16, .ref a0], h7)) rfl rfl rfl ?_
          refine xle_next (i := .iconst (-1)) (x' := (74, [(0, .ref a0), (1, .int p1), (2, .int x12)], [.int (Int32.ofInt (-1)), .int (Int32.ofInt 0), .int x19, .int x16, .ref a0], h7)) rfl rfl rfl ?_
          refine xle_isO (i := .invokevirtual 202) (bq := a0) (ci := 6) (fo := (f_M_comes z [.ref a0, .int x16, .int x19, .int (Int32.ofInt 0), .int (Int32.ofInt (-1))] h7).bind (xback 74 [(0, .ref a0), (1, .int p1), (2, .int x12)] [])) rfl rfl rfl (fun hs => ?_)
          refine xle_clV (t := []) rfl rfl hs (fun h20 => ?_)
          refine xle_next (i := .aload_n 0) (x' := (78, [(0, .ref a0), (1, .int p1), (2, .int x12)], [.ref a0], h20)) rfl rfl rfl ?_
          refine xle_getR (f := (6, 4, .array .int, 0)) rfl rfl rfl (fun r21 => ?_)
          refine xle_next (i := .iload_n 2) (x' := (82, [(0, .ref a0), (1, .int p1), (2, .int x12)], [.int x12, va_rf r21], h20)) rfl rfl rfl ?_
          refine xle_next (i := .iconst 0) (x' := (83, [(0, .ref a0), (1, .int p1), (2, .int x12)], [.int (Int32.ofInt 0), .int x12, va_rf r21], h20)) rfl rfl rfl ?_
          refine xle_some (fun r_ => (83, [(0, .ref a0), (1, .int p1), (2, .int x12)], [.int (Int32.ofInt 0), .int x12, va_rf r_], h20)) (fun a22 => ?_)
          refine xle_iast rfl rfl (fun h23 => ?_)
          refine xle_next (i := .iconst 0) (x' := (85, [(0, .ref a0), (1, .int p1), (2, .int x12)], [.int (Int32.ofInt 0)], h23)) rfl rfl rfl ?_
          exact xle_end (i := .ireturn) rfl rfl rfl
        · refine xle_next (i := .aload_n 0) (x' := (50, [(0, .ref a0), (1, .int p1), (2, .int x12)], [.ref a0], h7)) rfl rfl rfl ?_
          refine xle_next (i := .aload_n 0) (x' := (51, [(0, .ref a0), (1, .int p1), (2, .int x12)], [.ref a0, .ref a0], h7)) rfl rfl rfl ?_
          refine xle_getI (f := (6, 38, .int, 1)) rfl rfl rfl (fun x24 => ?_)
          refine xle_next (i := .iconst 5) (x' := (55, [(0, .ref a0), (1, .int p1), (2, .int x12)], [.int (Int32.ofInt 5), .int x24, .ref a0], h7)) rfl rfl rfl ?_
          refine xle_next (i := .iload_n 2) (x' := (56, [(0, .ref a0), (1, .int p1), (2, .int x12)], [.int x12, .int (Int32.ofInt 5), .int x24, .ref a0], h7)) rfl rfl rfl ?_
          refine xle_isO (i := .invokevirtual 213) (bq := a0) (ci := 6) (fo := (f_M_waits z [.ref a0, .int x24, .int (Int32.ofInt 5), .int x12] h7).bind (xback 56 [(0, .ref a0), (1, .int p1), (2, .int x12)] [])) rfl rfl rfl (fun hs => ?_)
          refine xle_clV (t := []) rfl rfl hs (fun h25 => ?_)
          refine xle_next (i := .iconst 1) (x' := (60, [(0, .ref a0), (1, .int p1), (2, .int x12)], [.int (Int32.ofInt 1)], h25)) rfl rfl rfl ?_
          exact xle_end (i := .ireturn) rfl rfl rfl
      · exact xle_jump rfl
noncomputable def D_M_await_28 (z : xzs)  (h : xH) : Option xR :=
  some (.inl (some (.int (Int32.ofInt 0))), h)
set_option maxRecDepth 20000 in
theorem E_M_await_28 (z : xzs)  (h : xH) : xle (D_M_await_28 z  h) (B_M_await_28 z  h) := by
  unfold D_M_await_28 B_M_await_28
  refine xle_next (i := .iconst 0) (x' := (29, [], [.int (Int32.ofInt 0)], h)) rfl rfl rfl ?_
  exact xle_end (i := .ireturn) rfl rfl rfl
noncomputable def D_M_pass_0 (z : xzs) (a0 : Nat) (h : xH) : Option xR :=
  (xisO h a0 6).bind fun _ => xclI (f_M_begins z [.ref a0, .int (Int32.ofInt 1)] h) fun x2 h1 =>
  if ¬ x2 = 0 then
    (rdI h1 a0 6 38).bind fun x3 =>
    (xisO h1 a0 6).bind fun _ => xclV (f_M_ready z [.ref a0, .int x3] h1) fun h4 =>
    (xisO h4 a0 6).bind fun _ => xclI (f_M_now z [.ref a0] h4) fun x6 h5 =>
    some (.inl (some (.int x6)), h5)
  else
    some (.inl (some (.int (Int32.ofInt 0))), h1)
set_option maxRecDepth 20000 in
theorem E_M_pass (z : xzs) (a0 : Nat) (h : xH) : xle (D_M_pass_0 z a0 h) (xfun (K_M_pass z) 1 [.ref a0] h) := by
  unfold D_M_pass_0
  refine xle_entry (Nat.le_of_ble_eq_true rfl) (xal_c (xca_a _) (rfl)) ?_
  show xle _ (xev (K_M_pass z) (0, [(0, .ref a0)], [], h))
  refine xle_next (i := .aload_n 0) (x' := (1, [(0, .ref a0)], [.ref a0], h)) rfl rfl rfl ?_
  refine xle_next (i := .iconst 1) (x' := (2, [(0, .ref a0)], [.int (Int32.ofInt 1), .ref a0], h)) rfl rfl rfl ?_
  refine xle_isO (i := .invokevirtual 177) (bq := a0) (ci := 6) (fo := (f_M_begins z [.ref a0, .int (Int32.ofInt 1)] h).bind (xback 2 [(0, .ref a0)] [])) rfl rfl rfl (fun hs => ?_)
  refine xle_clI (t := []) rfl rfl hs (fun x2 h1 => ?_)
  refine xle_if (cd := .ne) (q := 10) rfl rfl rfl xc_ne (fun _ => ?_) (fun _ => ?_)
  · refine xle_next (i := .aload_n 0) (x' := (11, [(0, .ref a0)], [.ref a0], h1)) rfl rfl rfl ?_
    refine xle_next (i := .aload_n 0) (x' := (12, [(0, .ref a0)], [.ref a0, .ref a0], h1)) rfl rfl rfl ?_
    refine xle_getI (f := (6, 38, .int, 1)) rfl rfl rfl (fun x3 => ?_)
    refine xle_isO (i := .invokevirtual 132) (bq := a0) (ci := 6) (fo := (f_M_ready z [.ref a0, .int x3] h1).bind (xback 15 [(0, .ref a0)] [])) rfl rfl rfl (fun hs => ?_)
    refine xle_clV (t := []) rfl rfl hs (fun h4 => ?_)
    refine xle_next (i := .aload_n 0) (x' := (19, [(0, .ref a0)], [.ref a0], h4)) rfl rfl rfl ?_
    refine xle_isO (i := .invokevirtual 153) (bq := a0) (ci := 6) (fo := (f_M_now z [.ref a0] h4).bind (xback 19 [(0, .ref a0)] [])) rfl rfl rfl (fun hs => ?_)
    refine xle_clI (t := []) rfl rfl hs (fun x6 h5 => ?_)
    exact xle_end (i := .ireturn) rfl rfl rfl
  · refine xle_next (i := .iconst 0) (x' := (9, [(0, .ref a0)], [.int (Int32.ofInt 0)], h1)) rfl rfl rfl ?_
    exact xle_end (i := .ireturn) rfl rfl rfl
noncomputable def B_M_priority_23 (z : xzs) (a0 : Nat) (h : xH) : Option xR := xev (K_M_priority z) (23, [(0, .ref a0)], [], h)
noncomputable def D_M_priority_0 (z : xzs) (a0 : Nat) (p1 : Int32) (p2 : Int32) (h : xH) : Option xR :=
  (xwr h a0 6 0 (.int (Int32.ofInt 0))).bind fun h1 =>
  xclI (f_M_within z [.int p1, .int (Int32.ofInt 1), .int (Int32.ofInt 3)] h1) fun x3 h2 =>
  if x3 = 0 then
    B_M_priority_23 z a0 h2
  else
    xclI (f_M_within z [.int p2, .int (Int32.ofInt 0), .int (Int32.ofInt 3)] h2) fun x5 h4 =>
    if ¬ x5 = 0 then
      (rdR h4 a0 6 20).bind fun r6 =>
      r6.bind fun a7 =>
      (rdA 0 h4 a7 p1).bind fun x8 =>
      (rdR h4 a0 6 20).bind fun r9 =>
      r9.bind fun a10 =>
      (wrI h4 a10 p1 p2).bind fun h11 =>
      some (.inl (some (.int x8)), h11)
    else
      B_M_priority_23 z a0 h4
set_option maxRecDepth 20000 in
theorem E_M_priority (z : xzs) (a0 : Nat) (p1 : Int32) (p2 : Int32) (h : xH) : xle (D_M_priority_0 z a0 p1 p2 h) (xfun (K_M_priority z) 4 [.ref a0, .int p1, .int p2] h) := by
  unfold D_M_priority_0
  refine xle_entry (Nat.le_of_ble_eq_true rfl) (xal_c (xca_a _) (xal_c (xca_i _) (xal_c (xca_i _) (rfl)))) ?_
  show xle _ (xev (K_M_priority z) (0, [(0, .ref a0), (1, .int p1), (2, .int p2)], [], h))
  refine xle_next (i := .aload_n 0) (x' := (1, [(0, .ref a0), (1, .int p1), (2, .int p2)], [.ref a0], h)) rfl rfl rfl ?_
  refine xle_next (i := .iconst 0) (x' := (2, [(0, .ref a0), (1, .int p1), (2, .int p2)], [.int (Int32.ofInt 0), .ref a0], h)) rfl rfl rfl ?_
  refine xle_put (v := .int (Int32.ofInt 0)) (f := (6, 0, .int, 1)) rfl rfl rfl ⟨by decide, rfl, rfl⟩ (fun h1 => ?_)
  refine xle_next (i := .iload_n 1) (x' := (6, [(0, .ref a0), (1, .int p1), (2, .int p2)], [.int p1], h1)) rfl rfl rfl ?_
  refine xle_next (i := .iconst 1) (x' := (7, [(0, .ref a0), (1, .int p1), (2, .int p2)], [.int (Int32.ofInt 1), .int p1], h1)) rfl rfl rfl ?_
  refine xle_next (i := .iconst 3) (x' := (8, [(0, .ref a0), (1, .int p1), (2, .int p2)], [.int (Int32.ofInt 3), .int (Int32.ofInt 1), .int p1], h1)) rfl rfl rfl ?_
  refine xle_clI (i := .invokestatic 169) (fo := f_M_within z [.int p1, .int (Int32.ofInt 1), .int (Int32.ofInt 3)] h1) (t := []) rfl rfl rfl (fun x3 h2 => ?_)
  refine xle_if (cd := .eq) (q := 23) rfl rfl rfl xc_eq (fun _ => ?_) (fun _ => ?_)
  · exact xle_jump rfl
  · refine xle_next (i := .iload_n 2) (x' := (15, [(0, .ref a0), (1, .int p1), (2, .int p2)], [.int p2], h2)) rfl rfl rfl ?_
    refine xle_next (i := .iconst 0) (x' := (16, [(0, .ref a0), (1, .int p1), (2, .int p2)], [.int (Int32.ofInt 0), .int p2], h2)) rfl rfl rfl ?_
    refine xle_next (i := .iconst 3) (x' := (17, [(0, .ref a0), (1, .int p1), (2, .int p2)], [.int (Int32.ofInt 3), .int (Int32.ofInt 0), .int p2], h2)) rfl rfl rfl ?_
    refine xle_clI (i := .invokestatic 169) (fo := f_M_within z [.int p2, .int (Int32.ofInt 0), .int (Int32.ofInt 3)] h2) (t := []) rfl rfl rfl (fun x5 h4 => ?_)
    refine xle_if (cd := .ne) (q := 29) rfl rfl rfl xc_ne (fun _ => ?_) (fun _ => ?_)
    · refine xle_next (i := .aload_n 0) (x' := (30, [(0, .ref a0), (1, .int p1), (2, .int p2)], [.ref a0], h4)) rfl rfl rfl ?_
      refine xle_getR (f := (6, 20, .array .int, 0)) rfl rfl rfl (fun r6 => ?_)
      refine xle_next (i := .iload_n 1) (x' := (34, [(0, .ref a0), (1, .int p1), (2, .int p2)], [.int p1, va_rf r6], h4)) rfl rfl rfl ?_
      refine xle_some (fun r_ => (34, [(0, .ref a0), (1, .int p1), (2, .int p2)], [.int p1, va_rf r_], h4)) (fun a7 => ?_)
      refine xle_iald rfl rfl (fun x8 => ?_)
      refine xle_next (i := .istore_n 3) (x' := (36, [(0, .ref a0), (1, .int p1), (2, .int p2), (3, .int x8)], [], h4)) rfl rfl rfl ?_
      refine xle_next (i := .aload_n 0) (x' := (37, [(0, .ref a0), (1, .int p1), (2, .int p2), (3, .int x8)], [.ref a0], h4)) rfl rfl rfl ?_
      refine xle_getR (f := (6, 20, .array .int, 0)) rfl rfl rfl (fun r9 => ?_)
      refine xle_next (i := .iload_n 1) (x' := (41, [(0, .ref a0), (1, .int p1), (2, .int p2), (3, .int x8)], [.int p1, va_rf r9], h4)) rfl rfl rfl ?_
      refine xle_next (i := .iload_n 2) (x' := (42, [(0, .ref a0), (1, .int p1), (2, .int p2), (3, .int x8)], [.int p2, .int p1, va_rf r9], h4)) rfl rfl rfl ?_
      refine xle_some (fun r_ => (42, [(0, .ref a0), (1, .int p1), (2, .int p2), (3, .int x8)], [.int p2, .int p1, va_rf r_], h4)) (fun a10 => ?_)
      refine xle_iast rfl rfl (fun h11 => ?_)
      refine xle_next (i := .iload_n 3) (x' := (44, [(0, .ref a0), (1, .int p1), (2, .int p2), (3, .int x8)], [.int x8], h11)) rfl rfl rfl ?_
      exact xle_end (i := .ireturn) rfl rfl rfl
    · exact xle_jump rfl
noncomputable def D_M_priority_23 (z : xzs) (a0 : Nat) (h : xH) : Option xR :=
  (xisO h a0 6).bind fun _ => xclI (f_M_fail z [.ref a0, .int (Int32.ofInt 1)] h) fun x13 h12 =>
  some (.inl (some (.int x13)), h12)
set_option maxRecDepth 20000 in
theorem E_M_priority_23 (z : xzs) (a0 : Nat) (h : xH) : xle (D_M_priority_23 z a0 h) (B_M_priority_23 z a0 h) := by
  unfold D_M_priority_23 B_M_priority_23
  refine xle_next (i := .aload_n 0) (x' := (24, [(0, .ref a0)], [.ref a0], h)) rfl rfl rfl ?_
  refine xle_next (i := .iconst 1) (x' := (25, [(0, .ref a0)], [.int (Int32.ofInt 1), .ref a0], h)) rfl rfl rfl ?_
  refine xle_isO (i := .invokevirtual 190) (bq := a0) (ci := 6) (fo := (f_M_fail z [.ref a0, .int (Int32.ofInt 1)] h).bind (xback 25 [(0, .ref a0)] [])) rfl rfl rfl (fun hs => ?_)
  refine xle_clI (t := []) rfl rfl hs (fun x13 h12 => ?_)
  exact xle_end (i := .ireturn) rfl rfl rfl
noncomputable def D_M_current_0 (z : xzs) (a0 : Nat) (h : xH) : Option xR :=
  (xwr h a0 6 0 (.int (Int32.ofInt 0))).bind fun h1 =>
  (xisO h1 a0 6).bind fun _ => xclI (f_M_now z [.ref a0] h1) fun x3 h2 =>
  some (.inl (some (.int x3)), h2)
set_option maxRecDepth 20000 in
theorem E_M_current (z : xzs) (a0 : Nat) (h : xH) : xle (D_M_current_0 z a0 h) (xfun (K_M_current z) 1 [.ref a0] h) := by
  unfold D_M_current_0
  refine xle_entry (Nat.le_of_ble_eq_true rfl) (xal_c (xca_a _) (rfl)) ?_
  show xle _ (xev (K_M_current z) (0, [(0, .ref a0)], [], h))
  refine xle_next (i := .aload_n 0) (x' := (1, [(0, .ref a0)], [.ref a0], h)) rfl rfl rfl ?_
  refine xle_next (i := .iconst 0) (x' := (2, [(0, .ref a0)], [.int (Int32.ofInt 0), .ref a0], h)) rfl rfl rfl ?_
  refine xle_put (v := .int (Int32.ofInt 0)) (f := (6, 0, .int, 1)) rfl rfl rfl ⟨by decide, rfl, rfl⟩ (fun h1 => ?_)
  refine xle_next (i := .aload_n 0) (x' := (6, [(0, .ref a0)], [.ref a0], h1)) rfl rfl rfl ?_
  refine xle_isO (i := .invokevirtual 153) (bq := a0) (ci := 6) (fo := (f_M_now z [.ref a0] h1).bind (xback 6 [(0, .ref a0)] [])) rfl rfl rfl (fun hs => ?_)
  refine xle_clI (t := []) rfl rfl hs (fun x3 h2 => ?_)
  exact xle_end (i := .ireturn) rfl rfl rfl
noncomputable def B_M_thread_23 (z : xzs) (a0 : Nat) (h : xH) : Option xR := xev (K_M_thread z) (23, [(0, .ref a0)], [], h)
noncomputable def D_M_thread_0 (z : xzs) (a0 : Nat) (p1 : Int32) (p2 : Int32) (h : xH) : Option xR :=
  (xwr h a0 6 0 (.int (Int32.ofInt 0))).bind fun h1 =>
  xclI (f_M_within z [.int p1, .int (Int32.ofInt 1), .int (Int32.ofInt 3)] h1) fun x3 h2 =>
  if x3 = 0 then
    B_M_thread_23 z a0 h2
  else
    xclI (f_M_within z [.int p2, .int (Int32.ofInt 0), .int (Int32.ofInt 5)] h2) fun x5 h4 =>
    if ¬ x5 = 0 then
      if p2 = 0 then
        (rdR h4 a0 6 15).bind fun r6 =>
        r6.bind fun a7 =>
        (rdA 0 h4 a7 p1).bind fun x8 =>
        some (.inl (some (.int x8)), h4)
      else
        if p2 = 1 then
          (rdR h4 a0 6 16).bind fun r9 =>
          r9.bind fun a10 =>
          (rdA 0 h4 a10 p1).bind fun x11 =>
          some (.inl (some (.int x11)), h4)
        else
          if p2 = 2 then
            (rdR h4 a0 6 17).bind fun r12 =>
            r12.bind fun a13 =>
            (rdA 0 h4 a13 p1).bind fun x14 =>
            some (.inl (some (.int x14)), h4)
          else
            if p2 = 3 then
              (rdR h4 a0 6 18).bind fun r15 =>
              r15.bind fun a16 =>
              (rdA 0 h4 a16 p1).bind fun x17 =>
              some (.inl (some (.int x17)), h4)
            else
              if p2 = 4 then
                (rdR h4 a0 6 19).bind fun r18 =>
                r18.bind fun a19 =>
                (rdA 0 h4 a19 p1).bind fun x20 =>
                some (.inl (some (.int x20)), h4)
              else
                (rdR h4 a0 6 20).bind fun r21 =>
                r21.bind fun a22 =>
                (rdA 0 h4 a22 p1).bind fun x23 =>
                some (.inl (some (.int x23)), h4)
    else
      B_M_thread_23 z a0 h4
set_option maxRecDepth 20000 in
theorem E_M_thread (z : xzs) (a0 : Nat) (p1 : Int32) (p2 : Int32) (h : xH) : xle (D_M_thread_0 z a0 p1 p2 h) (xfun (K_M_thread z) 3 [.ref a0, .int p1, .int p2] h) := by
  unfold D_M_thread_0
  refine xle_entry (Nat.le_of_ble_eq_true rfl) (xal_c (xca_a _) (xal_c (xca_i _) (xal_c (xca_i _) (rfl)))) ?_
  show xle _ (xev (K_M_thread z) (0, [(0, .ref a0), (1, .int p1), (2, .int p2)], [], h))
  refine xle_next (i := .aload_n 0) (x' := (1, [(0, .ref a0), (1, .int p1), (2, .int p2)], [.ref a0], h)) rfl rfl rfl ?_
  refine xle_next (i := .iconst 0) (x' := (2, [(0, .ref a0), (1, .int p1), (2, .int p2)], [.int (Int32.ofInt 0), .ref a0], h)) rfl rfl rfl ?_
  refine xle_put (v := .int (Int32.ofInt 0)) (f := (6, 0, .int, 1)) rfl rfl rfl ⟨by decide, rfl, rfl⟩ (fun h1 => ?_)
  refine xle_next (i := .iload_n 1) (x' := (6, [(0, .ref a0), (1, .int p1), (2, .int p2)], [.int p1], h1)) rfl rfl rfl ?_
  refine xle_next (i := .iconst 1) (x' := (7, [(0, .ref a0), (1, .int p1), (2, .int p2)], [.int (Int32.ofInt 1), .int p1], h1)) rfl rfl rfl ?_
  refine xle_next (i := .iconst 3) (x' := (8, [(0, .ref a0), (1, .int p1), (2, .int p2)], [.int (Int32.ofInt 3), .int (Int32.ofInt 1), .int p1], h1)) rfl rfl rfl ?_
  refine xle_clI (i := .invokestatic 169) (fo := f_M_within z [.int p1, .int (Int32.ofInt 1), .int (Int32.ofInt 3)] h1) (t := []) rfl rfl rfl (fun x3 h2 => ?_)
  refine xle_if (cd := .eq) (q := 23) rfl rfl rfl xc_eq (fun _ => ?_) (fun _ => ?_)
  · exact xle_jump rfl
  · refine xle_next (i := .iload_n 2) (x' := (15, [(0, .ref a0), (1, .int p1), (2, .int p2)], [.int p2], h2)) rfl rfl rfl ?_
    refine xle_next (i := .iconst 0) (x' := (16, [(0, .ref a0), (1, .int p1), (2, .int p2)], [.int (Int32.ofInt 0), .int p2], h2)) rfl rfl rfl ?_
    refine xle_next (i := .iconst 5) (x' := (17, [(0, .ref a0), (1, .int p1), (2, .int p2)], [.int (Int32.ofInt 5), .int (Int32.ofInt 0), .int p2], h2)) rfl rfl rfl ?_
    refine xle_clI (i := .invokestatic 169) (fo := f_M_within z [.int p2, .int (Int32.ofInt 0), .int (Int32.ofInt 5)] h2) (t := []) rfl rfl rfl (fun x5 h4 => ?_)
    refine xle_if (cd := .ne) (q := 29) rfl rfl rfl xc_ne (fun _ => ?_) (fun _ => ?_)
    · refine xle_next (i := .iload_n 2) (x' := (30, [(0, .ref a0), (1, .int p1), (2, .int p2)], [.int p2], h4)) rfl rfl rfl ?_
      refine xle_ite (fun e0 => ?_) (fun e0 => ?_)
      · subst e0
        refine xle_tsw (x := 0) (off := 34) (q := 64) rfl rfl (by decide) (by decide) rfl ?_
        refine xle_next (i := .aload_n 0) (x' := (65, [(0, .ref a0), (1, .int p1), (2, .int (0))], [.ref a0], h4)) rfl rfl rfl ?_
        refine xle_getR (f := (6, 15, .array .int, 0)) rfl rfl rfl (fun r6 => ?_)
        refine xle_next (i := .iload_n 1) (x' := (69, [(0, .ref a0), (1, .int p1), (2, .int (0))], [.int p1, va_rf r6], h4)) rfl rfl rfl ?_
        refine xle_some (fun r_ => (69, [(0, .ref a0), (1, .int p1), (2, .int (0))], [.int p1, va_rf r_], h4)) (fun a7 => ?_)
        refine xle_iald rfl rfl (fun x8 => ?_)
        exact xle_end (i := .ireturn) rfl rfl rfl
      · refine xle_ite (fun e1 => ?_) (fun e1 => ?_)
        · subst e1
          refine xle_tsw (x := 1) (off := 41) (q := 71) rfl rfl (by decide) (by decide) rfl ?_
          refine xle_next (i := .aload_n 0) (x' := (72, [(0, .ref a0), (1, .int p1), (2, .int (1))], [.ref a0], h4)) rfl rfl rfl ?_
          refine xle_getR (f := (6, 16, .array .int, 0)) rfl rfl rfl (fun r9 => ?_)
          refine xle_next (i := .iload_n 1) (x' := (76, [(0, .ref a0), (1, .int p1), (2, .int (1))], [.int p1, va_rf r9], h4)) rfl rfl rfl ?_
          refine xle_some (fun r_ => (76, [(0, .ref a0), (1, .int p1), (2, .int (1))], [.int p1, va_rf r_], h4)) (fun a10 => ?_)
          refine xle_iald rfl rfl (fun x11 => ?_)
          exact xle_end (i := .ireturn) rfl rfl rfl
        · refine xle_ite (fun e2 => ?_) (fun e2 => ?_)
          · subst e2
            refine xle_tsw (x := 2) (off := 48) (q := 78) rfl rfl (by decide) (by decide) rfl ?_
            refine xle_next (i := .aload_n 0) (x' := (79, [(0, .ref a0), (1, .int p1), (2, .int (2))], [.ref a0], h4)) rfl rfl rfl ?_
            refine xle_getR (f := (6, 17, .array .int, 0)) rfl rfl rfl (fun r12 => ?_)
            refine xle_next (i := .iload_n 1) (x' := (83, [(0, .ref a0), (1, .int p1), (2, .int (2))], [.int p1, va_rf r12], h4)) rfl rfl rfl ?_
            refine xle_some (fun r_ => (83, [(0, .ref a0), (1, .int p1), (2, .int (2))], [.int p1, va_rf r_], h4)) (fun a13 => ?_)
            refine xle_iald rfl rfl (fun x14 => ?_)
            exact xle_end (i := .ireturn) rfl rfl rfl
          · refine xle_ite (fun e3 => ?_) (fun e3 => ?_)
            · subst e3
              refine xle_tsw (x := 3) (off := 55) (q := 85) rfl rfl (by decide) (by decide) rfl ?_
              refine xle_next (i := .aload_n 0) (x' := (86, [(0, .ref a0), (1, .int p1), (2, .int (3))], [.ref a0], h4)) rfl rfl rfl ?_
              refine xle_getR (f := (6, 18, .array .int, 0)) rfl rfl rfl (fun r15 => ?_)
              refine xle_next (i := .iload_n 1) (x' := (90, [(0, .ref a0), (1, .int p1), (2, .int (3))], [.int p1, va_rf r15], h4)) rfl rfl rfl ?_
              refine xle_some (fun r_ => (90, [(0, .ref a0), (1, .int p1), (2, .int (3))], [.int p1, va_rf r_], h4)) (fun a16 => ?_)
              refine xle_iald rfl rfl (fun x17 => ?_)
              exact xle_end (i := .ireturn) rfl rfl rfl
            · refine xle_ite (fun e4 => ?_) (fun e4 => ?_)
              · subst e4
                refine xle_tsw (x := 4) (off := 62) (q := 92) rfl rfl (by decide) (by decide) rfl ?_
                refine xle_next (i := .aload_n 0) (x' := (93, [(0, .ref a0), (1, .int p1), (2, .int (4))], [.ref a0], h4)) rfl rfl rfl ?_
                refine xle_getR (f := (6, 19, .array .int, 0)) rfl rfl rfl (fun r18 => ?_)
                refine xle_next (i := .iload_n 1) (x' := (97, [(0, .ref a0), (1, .int p1), (2, .int (4))], [.int p1, va_rf r18], h4)) rfl rfl rfl ?_
                refine xle_some (fun r_ => (97, [(0, .ref a0), (1, .int p1), (2, .int (4))], [.int p1, va_rf r_], h4)) (fun a19 => ?_)
                refine xle_iald rfl rfl (fun x20 => ?_)
                exact xle_end (i := .ireturn) rfl rfl rfl
              · have hts : p2.toInt < 0 ∨ 4 < p2.toInt := by
                  have t0 : ¬ p2.toInt = 0 := fun w => e0 (Int32.toInt_inj.mp (w.trans (by decide)))
                  have t1 : ¬ p2.toInt = 1 := fun w => e1 (Int32.toInt_inj.mp (w.trans (by decide)))
                  have t2 : ¬ p2.toInt = 2 := fun w => e2 (Int32.toInt_inj.mp (w.trans (by decide)))
                  have t3 : ¬ p2.toInt = 3 := fun w => e3 (Int32.toInt_inj.mp (w.trans (by decide)))
                  have t4 : ¬ p2.toInt = 4 := fun w => e4 (Int32.toInt_inj.mp (w.trans (by decide)))
                  omega
                refine xle_tsd (q := 99) rfl rfl hts rfl ?_
                refine xle_next (i := .aload_n 0) (x' := (100, [(0, .ref a0), (1, .int p1), (2, .int p2)], [.ref a0], h4)) rfl rfl rfl ?_
                refine xle_getR (f := (6, 20, .array .int, 0)) rfl rfl rfl (fun r21 => ?_)
                refine xle_next (i := .iload_n 1) (x' := (104, [(0, .ref a0), (1, .int p1), (2, .int p2)], [.int p1, va_rf r21], h4)) rfl rfl rfl ?_
                refine xle_some (fun r_ => (104, [(0, .ref a0), (1, .int p1), (2, .int p2)], [.int p1, va_rf r_], h4)) (fun a22 => ?_)
                refine xle_iald rfl rfl (fun x23 => ?_)
                exact xle_end (i := .ireturn) rfl rfl rfl
    · exact xle_jump rfl
noncomputable def D_M_thread_23 (z : xzs) (a0 : Nat) (h : xH) : Option xR :=
  (xisO h a0 6).bind fun _ => xclI (f_M_fail z [.ref a0, .int (Int32.ofInt 1)] h) fun x25 h24 =>
  some (.inl (some (.int x25)), h24)
set_option maxRecDepth 20000 in
theorem E_M_thread_23 (z : xzs) (a0 : Nat) (h : xH) : xle (D_M_thread_23 z a0 h) (B_M_thread_23 z a0 h) := by
  unfold D_M_thread_23 B_M_thread_23
  refine xle_next (i := .aload_n 0) (x' := (24, [(0, .ref a0)], [.ref a0], h)) rfl rfl rfl ?_
  refine xle_next (i := .iconst 1) (x' := (25, [(0, .ref a0)], [.int (Int32.ofInt 1), .ref a0], h)) rfl rfl rfl ?_
  refine xle_isO (i := .invokevirtual 190) (bq := a0) (ci := 6) (fo := (f_M_fail z [.ref a0, .int (Int32.ofInt 1)] h).bind (xback 25 [(0, .ref a0)] [])) rfl rfl rfl (fun hs => ?_)
  refine xle_clI (t := []) rfl rfl hs (fun x25 h24 => ?_)
  exact xle_end (i := .ireturn) rfl rfl rfl
noncomputable def B_M_look_30 (z : xzs) (a0 : Nat) (h : xH) : Option xR := xev (K_M_look z) (30, [(0, .ref a0)], [], h)
noncomputable def B_M_look_70 (z : xzs) (a0 : Nat) (xv3 : Int32) (xv4 : Int32) (xv5 : Int32) (xv6 : Int32) (xv7 : Int32) (h : xH) : Option xR := xev (K_M_look z) (70, [(0, .ref a0), (3, .int xv3), (4, .int xv4), (5, .int xv5), (6, .int xv6), (7, .int xv7)], [], h)
noncomputable def B_M_look_194 (z : xzs) (xs0 : Int32) (h : xH) : Option xR := xev (K_M_look z) (194, [], [.int xs0], h)
noncomputable def B_M_look_103 (z : xzs) (a0 : Nat) (xv3 : Int32) (xv4 : Int32) (xv5 : Int32) (xv6 : Int32) (xv7 : Int32) (h : xH) : Option xR := xev (K_M_look z) (103, [(0, .ref a0), (3, .int xv3), (4, .int xv4), (5, .int xv5), (6, .int xv6), (7, .int xv7)], [], h)
noncomputable def D_M_look_0 (z : xzs) (a0 : Nat) (p1 : Int32) (p2 : Int32) (p3 : Int32) (h : xH) : Option xR :=
  (xwr h a0 6 0 (.int (Int32.ofInt 0))).bind fun h1 =>
  xclI (f_M_within z [.int p1, .int (Int32.ofInt 1), .int (Int32.ofInt 3)] h1) fun x3 h2 =>
  if x3 = 0 then
    B_M_look_30 z a0 h2
  else
    xclI (f_M_reaches z [.int p2] h2) fun x5 h4 =>
    if x5 = 0 then
      B_M_look_30 z a0 h4
    else
      xclI (f_M_within z [.int p3, .int (Int32.ofInt 0), .int (Int32.ofInt 4)] h4) fun x7 h6 =>
      if ¬ x7 = 0 then
        (xisO h6 a0 6).bind fun _ => xclI (f_M_capability z [.ref a0, .int p1, .int p2] h6) fun x9 h8 =>
        if ¬ x9 = 0 then
          (rdR h8 a0 6 8).bind fun r10 =>
          r10.bind fun a11 =>
          (rdA 0 h8 a11 x9).bind fun x12 =>
          B_M_look_70 z a0 p3 x9 x12 (Int32.ofInt 0) (Int32.ofInt 1) h8
        else
          (xisO h8 a0 6).bind fun _ => xclI (f_M_fail z [.ref a0, .int (Int32.ofInt 2)] h8) fun x14 h13 =>
          some (.inl (some (.int x14)), h13)
      else
        B_M_look_30 z a0 h6
set_option maxRecDepth 20000 in
theorem E_M_look (z : xzs) (a0 : Nat) (p1 : Int32) (p2 : Int32) (p3 : Int32) (h : xH) : xle (D_M_look_0 z a0 p1 p2 p3 h) (xfun (K_M_look z) 8 [.ref a0, .int p1, .int p2, .int p3] h) := by
  unfold D_M_look_0
  refine xle_entry (Nat.le_of_ble_eq_true rfl) (xal_c (xca_a _) (xal_c (xca_i _) (xal_c (xca_i _) (xal_c (xca_i _) (rfl))))) ?_
  show xle _ (xev (K_M_look z) (0, [(0, .ref a0), (1, .int p1), (2, .int p2), (3, .int p3)], [], h))
  refine xle_next (i := .aload_n 0) (x' := (1, [(0, .ref a0), (1, .int p1), (2, .int p2), (3, .int p3)], [.ref a0], h)) rfl rfl rfl ?_
  refine xle_next (i := .iconst 0) (x' := (2, [(0, .ref a0), (1, .int p1), (2, .int p2), (3, .int p3)], [.int (Int32.ofInt 0), .ref a0], h)) rfl rfl rfl ?_
  refine xle_put (v := .int (Int32.ofInt 0)) (f := (6, 0, .int, 1)) rfl rfl rfl ⟨by decide, rfl, rfl⟩ (fun h1 => ?_)
  refine xle_next (i := .iload_n 1) (x' := (6, [(0, .ref a0), (1, .int p1), (2, .int p2), (3, .int p3)], [.int p1], h1)) rfl rfl rfl ?_
  refine xle_next (i := .iconst 1) (x' := (7, [(0, .ref a0), (1, .int p1), (2, .int p2), (3, .int p3)], [.int (Int32.ofInt 1), .int p1], h1)) rfl rfl rfl ?_
  refine xle_next (i := .iconst 3) (x' := (8, [(0, .ref a0), (1, .int p1), (2, .int p2), (3, .int p3)], [.int (Int32.ofInt 3), .int (Int32.ofInt 1), .int p1], h1)) rfl rfl rfl ?_
  refine xle_clI (i := .invokestatic 169) (fo := f_M_within z [.int p1, .int (Int32.ofInt 1), .int (Int32.ofInt 3)] h1) (t := []) rfl rfl rfl (fun x3 h2 => ?_)
  refine xle_if (cd := .eq) (q := 30) rfl rfl rfl xc_eq (fun _ => ?_) (fun _ => ?_)
  · exact xle_jump rfl
  · refine xle_next (i := .iload_n 2) (x' := (15, [(0, .ref a0), (1, .int p1), (2, .int p2), (3, .int p3)], [.int p2], h2)) rfl rfl rfl ?_
    refine xle_clI (i := .invokestatic 173) (fo := f_M_reaches z [.int p2] h2) (t := []) rfl rfl rfl (fun x5 h4 => ?_)
    refine xle_if (cd := .eq) (q := 30) rfl rfl rfl xc_eq (fun _ => ?_) (fun _ => ?_)
    · exact xle_jump rfl
    · refine xle_next (i := .iload_n 3) (x' := (22, [(0, .ref a0), (1, .int p1), (2, .int p2), (3, .int p3)], [.int p3], h4)) rfl rfl rfl ?_
      refine xle_next (i := .iconst 0) (x' := (23, [(0, .ref a0), (1, .int p1), (2, .int p2), (3, .int p3)], [.int (Int32.ofInt 0), .int p3], h4)) rfl rfl rfl ?_
      refine xle_next (i := .iconst 4) (x' := (24, [(0, .ref a0), (1, .int p1), (2, .int p2), (3, .int p3)], [.int (Int32.ofInt 4), .int (Int32.ofInt 0), .int p3], h4)) rfl rfl rfl ?_
      refine xle_clI (i := .invokestatic 169) (fo := f_M_within z [.int p3, .int (Int32.ofInt 0), .int (Int32.ofInt 4)] h4) (t := []) rfl rfl rfl (fun x7 h6 => ?_)
      refine xle_if (cd := .ne) (q := 36) rfl rfl rfl xc_ne (fun _ => ?_) (fun _ => ?_)
      · refine xle_next (i := .aload_n 0) (x' := (37, [(0, .ref a0), (1, .int p1), (2, .int p2), (3, .int p3)], [.ref a0], h6)) rfl rfl rfl ?_
        refine xle_next (i := .iload_n 1) (x' := (38, [(0, .ref a0), (1, .int p1), (2, .int p2), (3, .int p3)], [.int p1, .ref a0], h6)) rfl rfl rfl ?_
        refine xle_next (i := .iload_n 2) (x' := (39, [(0, .ref a0), (1, .int p1), (2, .int p2), (3, .int p3)], [.int p2, .int p1, .ref a0], h6)) rfl rfl rfl ?_
        refine xle_isO (i := .invokevirtual 160) (bq := a0) (ci := 6) (fo := (f_M_capability z [.ref a0, .int p1, .int p2] h6).bind (xback 39 [(0, .ref a0), (1, .int p1), (2, .int p2), (3, .int p3)] [])) rfl rfl rfl (fun hs => ?_)
        refine xle_clI (t := []) rfl rfl hs (fun x9 h8 => ?_)
        refine xle_next (i := .istore 4) (x' := (44, [(0, .ref a0), (1, .int p1), (2, .int p2), (3, .int p3), (4, .int x9)], [], h8)) rfl rfl rfl ?_
        refine xle_next (i := .iload 4) (x' := (46, [(0, .ref a0), (1, .int p1), (2, .int p2), (3, .int p3), (4, .int x9)], [.int x9], h8)) rfl rfl rfl ?_
        refine xle_if (cd := .ne) (q := 55) rfl rfl rfl xc_ne (fun _ => ?_) (fun _ => ?_)
        · refine xle_next (i := .aload_n 0) (x' := (56, [(0, .ref a0), (1, .int p1), (2, .int p2), (3, .int p3), (4, .int x9)], [.ref a0], h8)) rfl rfl rfl ?_
          refine xle_getR (f := (6, 8, .array .int, 0)) rfl rfl rfl (fun r10 => ?_)
          refine xle_next (i := .iload 4) (x' := (61, [(0, .ref a0), (1, .int p1), (2, .int p2), (3, .int p3), (4, .int x9)], [.int x9, va_rf r10], h8)) rfl rfl rfl ?_
          refine xle_some (fun r_ => (61, [(0, .ref a0), (1, .int p1), (2, .int p2), (3, .int p3), (4, .int x9)], [.int x9, va_rf r_], h8)) (fun a11 => ?_)
          refine xle_iald rfl rfl (fun x12 => ?_)
          refine xle_next (i := .istore 5) (x' := (64, [(0, .ref a0), (1, .int p1), (2, .int p2), (3, .int p3), (4, .int x9), (5, .int x12)], [], h8)) rfl rfl rfl ?_
          refine xle_next (i := .iconst 0) (x' := (65, [(0, .ref a0), (1, .int p1), (2, .int p2), (3, .int p3), (4, .int x9), (5, .int x12)], [.int (Int32.ofInt 0)], h8)) rfl rfl rfl ?_
          refine xle_next (i := .istore 6) (x' := (67, [(0, .ref a0), (1, .int p1), (2, .int p2), (3, .int p3), (4, .int x9), (5, .int x12), (6, .int (Int32.ofInt 0))], [], h8)) rfl rfl rfl ?_
          refine xle_next (i := .iconst 1) (x' := (68, [(0, .ref a0), (1, .int p1), (2, .int p2), (3, .int p3), (4, .int x9), (5, .int x12), (6, .int (Int32.ofInt 0))], [.int (Int32.ofInt 1)], h8)) rfl rfl rfl ?_
          refine xle_next (i := .istore 7) (x' := (70, [(0, .ref a0), (1, .int p1), (2, .int p2), (3, .int p3), (4, .int x9), (5, .int x12), (6, .int (Int32.ofInt 0)), (7, .int (Int32.ofInt 1))], [], h8)) rfl rfl rfl ?_
          exact xle_jump rfl
        · refine xle_next (i := .aload_n 0) (x' := (50, [(0, .ref a0), (1, .int p1), (2, .int p2), (3, .int p3), (4, .int x9)], [.ref a0], h8)) rfl rfl rfl ?_
          refine xle_next (i := .iconst 2) (x' := (51, [(0, .ref a0), (1, .int p1), (2, .int p2), (3, .int p3), (4, .int x9)], [.int (Int32.ofInt 2), .ref a0], h8)) rfl rfl rfl ?_
          refine xle_isO (i := .invokevirtual 190) (bq := a0) (ci := 6) (fo := (f_M_fail z [.ref a0, .int (Int32.ofInt 2)] h8).bind (xback 51 [(0, .ref a0), (1, .int p1), (2, .int p2), (3, .int p3), (4, .int x9)] [])) rfl rfl rfl (fun hs => ?_)
          refine xle_clI (t := []) rfl rfl hs (fun x14 h13 => ?_)
          exact xle_end (i := .ireturn) rfl rfl rfl
      · exact xle_jump rfl
noncomputable def D_M_look_30 (z : xzs) (a0 : Nat) (h : xH) : Option xR :=
  (xisO h a0 6).bind fun _ => xclI (f_M_fail z [.ref a0, .int (Int32.ofInt 1)] h) fun x16 h15 =>
  some (.inl (some (.int x16)), h15)
set_option maxRecDepth 20000 in
theorem E_M_look_30 (z : xzs) (a0 : Nat) (h : xH) : xle (D_M_look_30 z a0 h) (B_M_look_30 z a0 h) := by
  unfold D_M_look_30 B_M_look_30
  refine xle_next (i := .aload_n 0) (x' := (31, [(0, .ref a0)], [.ref a0], h)) rfl rfl rfl ?_
  refine xle_next (i := .iconst 1) (x' := (32, [(0, .ref a0)], [.int (Int32.ofInt 1), .ref a0], h)) rfl rfl rfl ?_
  refine xle_isO (i := .invokevirtual 190) (bq := a0) (ci := 6) (fo := (f_M_fail z [.ref a0, .int (Int32.ofInt 1)] h).bind (xback 32 [(0, .ref a0)] [])) rfl rfl rfl (fun hs => ?_)
  refine xle_clI (t := []) rfl rfl hs (fun x16 h15 => ?_)
  exact xle_end (i := .ireturn) rfl rfl rfl
noncomputable def D_M_look_70 (z : xzs) (a0 : Nat) (xv3 : Int32) (xv4 : Int32) (xv5 : Int32) (xv6 : Int32) (xv7 : Int32) (h : xH) : Option xR :=
  (rdI h a0 6 13).bind fun x17 =>
  if x17 < xv7 then
    if xv3 = 0 then
      (rdR h a0 6 1).bind fun r18 =>
      r18.bind fun a19 =>
      (rdA 0 h a19 xv5).bind fun x20 =>
      some (.inl (some (.int x20)), h)
    else
      if xv3 = 1 then
        (rdR h a0 6 9).bind fun r21 =>
        r21.bind fun a22 =>
        (rdA 0 h a22 xv4).bind fun x23 =>
        some (.inl (some (.int x23)), h)
      else
        if xv3 = 2 then
          (rdR h a0 6 10).bind fun r24 =>
          r24.bind fun a25 =>
          (rdA 0 h a25 xv4).bind fun x26 =>
          some (.inl (some (.int x26)), h)
        else
          if xv3 = 3 then
            some (.inl (some (.int xv6)), h)
          else
            (rdR h a0 6 1).bind fun r27 =>
            r27.bind fun a28 =>
            (rdA 0 h a28 xv5).bind fun x29 =>
            if ¬ x29 = 0 then
              (rdR h a0 6 4).bind fun r30 =>
              r30.bind fun a31 =>
              (rdA 0 h a31 xv5).bind fun x32 =>
              B_M_look_194 z x32 h
            else
              (rdR h a0 6 3).bind fun r33 =>
              r33.bind fun a34 =>
              (rdA 0 h a34 xv5).bind fun x35 =>
              B_M_look_194 z x35 h
  else
    (rdR h a0 6 12).bind fun r36 =>
    r36.bind fun a37 =>
    (rdA 1 h a37 xv7).bind fun x38 =>
    if x38 = 0 then
      B_M_look_103 z a0 xv3 xv4 xv5 xv6 xv7 h
    else
      (xisO h a0 6).bind fun _ => xclI (f_M_cameOf z [.ref a0, .int xv7, .int xv4] h) fun x40 h39 =>
      if x40 = 0 then
        B_M_look_103 z a0 xv3 xv4 xv5 xv6 xv7 h39
      else
        B_M_look_103 z a0 xv3 xv4 xv5 (xv6 + Int32.ofInt 1) xv7 h39
set_option maxRecDepth 20000 in
theorem E_M_look_70 (z : xzs) (a0 : Nat) (xv3 : Int32) (xv4 : Int32) (xv5 : Int32) (xv6 : Int32) (xv7 : Int32) (h : xH) : xle (D_M_look_70 z a0 xv3 xv4 xv5 xv6 xv7 h) (B_M_look_70 z a0 xv3 xv4 xv5 xv6 xv7 h) := by
  unfold D_M_look_70 B_M_look_70
  refine xle_next (i := .iload 7) (x' := (72, [(0, .ref a0), (3, .int xv3), (4, .int xv4), (5, .int xv5), (6, .int xv6), (7, .int xv7)], [.int xv7], h)) rfl rfl rfl ?_
  refine xle_next (i := .aload_n 0) (x' := (73, [(0, .ref a0), (3, .int xv3), (4, .int xv4), (5, .int xv5), (6, .int xv6), (7, .int xv7)], [.ref a0, .int xv7], h)) rfl rfl rfl ?_
  refine xle_getI (f := (6, 13, .int, 1)) rfl rfl rfl (fun x17 => ?_)
  refine xle_icmp (cd := .gt) (q := 109) rfl rfl rfl xc_gt (fun _ => ?_) (fun _ => ?_)
  · refine xle_next (i := .iload_n 3) (x' := (110, [(0, .ref a0), (3, .int xv3), (4, .int xv4), (5, .int xv5), (6, .int xv6), (7, .int xv7)], [.int xv3], h)) rfl rfl rfl ?_
    refine xle_ite (fun e0 => ?_) (fun e0 => ?_)
    · subst e0
      refine xle_tsw (x := 0) (off := 30) (q := 140) rfl rfl (by decide) (by decide) rfl ?_
      refine xle_next (i := .aload_n 0) (x' := (141, [(0, .ref a0), (3, .int (0)), (4, .int xv4), (5, .int xv5), (6, .int xv6), (7, .int xv7)], [.ref a0], h)) rfl rfl rfl ?_
      refine xle_getR (f := (6, 1, .array .int, 0)) rfl rfl rfl (fun r18 => ?_)
      refine xle_next (i := .iload 5) (x' := (146, [(0, .ref a0), (3, .int (0)), (4, .int xv4), (5, .int xv5), (6, .int xv6), (7, .int xv7)], [.int xv5, va_rf r18], h)) rfl rfl rfl ?_
      refine xle_some (fun r_ => (146, [(0, .ref a0), (3, .int (0)), (4, .int xv4), (5, .int xv5), (6, .int xv6), (7, .int xv7)], [.int xv5, va_rf r_], h)) (fun a19 => ?_)
      refine xle_iald rfl rfl (fun x20 => ?_)
      exact xle_end (i := .ireturn) rfl rfl rfl
    · refine xle_ite (fun e1 => ?_) (fun e1 => ?_)
      · subst e1
        refine xle_tsw (x := 1) (off := 38) (q := 148) rfl rfl (by decide) (by decide) rfl ?_
        refine xle_next (i := .aload_n 0) (x' := (149, [(0, .ref a0), (3, .int (1)), (4, .int xv4), (5, .int xv5), (6, .int xv6), (7, .int xv7)], [.ref a0], h)) rfl rfl rfl ?_
        refine xle_getR (f := (6, 9, .array .int, 0)) rfl rfl rfl (fun r21 => ?_)
        refine xle_next (i := .iload 4) (x' := (154, [(0, .ref a0), (3, .int (1)), (4, .int xv4), (5, .int xv5), (6, .int xv6), (7, .int xv7)], [.int xv4, va_rf r21], h)) rfl rfl rfl ?_
        refine xle_some (fun r_ => (154, [(0, .ref a0), (3, .int (1)), (4, .int xv4), (5, .int xv5), (6, .int xv6), (7, .int xv7)], [.int xv4, va_rf r_], h)) (fun a22 => ?_)
        refine xle_iald rfl rfl (fun x23 => ?_)
        exact xle_end (i := .ireturn) rfl rfl rfl
      · refine xle_ite (fun e2 => ?_) (fun e2 => ?_)
        · subst e2
          refine xle_tsw (x := 2) (off := 46) (q := 156) rfl rfl (by decide) (by decide) rfl ?_
          refine xle_next (i := .aload_n 0) (x' := (157, [(0, .ref a0), (3, .int (2)), (4, .int xv4), (5, .int xv5), (6, .int xv6), (7, .int xv7)], [.ref a0], h)) rfl rfl rfl ?_
          refine xle_getR (f := (6, 10, .array .int, 0)) rfl rfl rfl (fun r24 => ?_)
          refine xle_next (i := .iload 4) (x' := (162, [(0, .ref a0), (3, .int (2)), (4, .int xv4), (5, .int xv5), (6, .int xv6), (7, .int xv7)], [.int xv4, va_rf r24], h)) rfl rfl rfl ?_
          refine xle_some (fun r_ => (162, [(0, .ref a0), (3, .int (2)), (4, .int xv4), (5, .int xv5), (6, .int xv6), (7, .int xv7)], [.int xv4, va_rf r_], h)) (fun a25 => ?_)
          refine xle_iald rfl rfl (fun x26 => ?_)
          exact xle_end (i := .ireturn) rfl rfl rfl
        · refine xle_ite (fun e3 => ?_) (fun e3 => ?_)
          · subst e3
            refine xle_tsw (x := 3) (off := 54) (q := 164) rfl rfl (by decide) (by decide) rfl ?_
            refine xle_next (i := .iload 6) (x' := (166, [(0, .ref a0), (3, .int (3)), (4, .int xv4), (5, .int xv5), (6, .int xv6), (7, .int xv7)], [.int xv6], h)) rfl rfl rfl ?_
            exact xle_end (i := .ireturn) rfl rfl rfl
          · have hts : xv3.toInt < 0 ∨ 3 < xv3.toInt := by
              have t0 : ¬ xv3.toInt = 0 := fun w => e0 (Int32.toInt_inj.mp (w.trans (by decide)))
              have t1 : ¬ xv3.toInt = 1 := fun w => e1 (Int32.toInt_inj.mp (w.trans (by decide)))
              have t2 : ¬ xv3.toInt = 2 := fun w => e2 (Int32.toInt_inj.mp (w.trans (by decide)))
              have t3 : ¬ xv3.toInt = 3 := fun w => e3 (Int32.toInt_inj.mp (w.trans (by decide)))
              omega
            refine xle_tsd (q := 167) rfl rfl hts rfl ?_
            refine xle_next (i := .aload_n 0) (x' := (168, [(0, .ref a0), (3, .int xv3), (4, .int xv4), (5, .int xv5), (6, .int xv6), (7, .int xv7)], [.ref a0], h)) rfl rfl rfl ?_
            refine xle_getR (f := (6, 1, .array .int, 0)) rfl rfl rfl (fun r27 => ?_)
            refine xle_next (i := .iload 5) (x' := (173, [(0, .ref a0), (3, .int xv3), (4, .int xv4), (5, .int xv5), (6, .int xv6), (7, .int xv7)], [.int xv5, va_rf r27], h)) rfl rfl rfl ?_
            refine xle_some (fun r_ => (173, [(0, .ref a0), (3, .int xv3), (4, .int xv4), (5, .int xv5), (6, .int xv6), (7, .int xv7)], [.int xv5, va_rf r_], h)) (fun a28 => ?_)
            refine xle_iald rfl rfl (fun x29 => ?_)
            refine xle_if (cd := .ne) (q := 187) rfl rfl rfl xc_ne (fun _ => ?_) (fun _ => ?_)
            · refine xle_next (i := .aload_n 0) (x' := (188, [(0, .ref a0), (3, .int xv3), (4, .int xv4), (5, .int xv5), (6, .int xv6), (7, .int xv7)], [.ref a0], h)) rfl rfl rfl ?_
              refine xle_getR (f := (6, 4, .array .int, 0)) rfl rfl rfl (fun r30 => ?_)
              refine xle_next (i := .iload 5) (x' := (193, [(0, .ref a0), (3, .int xv3), (4, .int xv4), (5, .int xv5), (6, .int xv6), (7, .int xv7)], [.int xv5, va_rf r30], h)) rfl rfl rfl ?_
              refine xle_some (fun r_ => (193, [(0, .ref a0), (3, .int xv3), (4, .int xv4), (5, .int xv5), (6, .int xv6), (7, .int xv7)], [.int xv5, va_rf r_], h)) (fun a31 => ?_)
              refine xle_iald rfl rfl (fun x32 => ?_)
              exact xle_jump rfl
            · refine xle_next (i := .aload_n 0) (x' := (178, [(0, .ref a0), (3, .int xv3), (4, .int xv4), (5, .int xv5), (6, .int xv6), (7, .int xv7)], [.ref a0], h)) rfl rfl rfl ?_
              refine xle_getR (f := (6, 3, .array .int, 0)) rfl rfl rfl (fun r33 => ?_)
              refine xle_next (i := .iload 5) (x' := (183, [(0, .ref a0), (3, .int xv3), (4, .int xv4), (5, .int xv5), (6, .int xv6), (7, .int xv7)], [.int xv5, va_rf r33], h)) rfl rfl rfl ?_
              refine xle_some (fun r_ => (183, [(0, .ref a0), (3, .int xv3), (4, .int xv4), (5, .int xv5), (6, .int xv6), (7, .int xv7)], [.int xv5, va_rf r_], h)) (fun a34 => ?_)
              refine xle_iald rfl rfl (fun x35 => ?_)
              refine xle_next (i := .goto 10) (x' := (194, [(0, .ref a0), (3, .int xv3), (4, .int xv4), (5, .int xv5), (6, .int xv6), (7, .int xv7)], [.int x35], h)) rfl rfl rfl ?_
              exact xle_jump rfl
  · refine xle_next (i := .aload_n 0) (x' := (80, [(0, .ref a0), (3, .int xv3), (4, .int xv4), (5, .int xv5), (6, .int xv6), (7, .int xv7)], [.ref a0], h)) rfl rfl rfl ?_
    refine xle_getR (f := (6, 12, .array .boolean, 0)) rfl rfl rfl (fun r36 => ?_)
    refine xle_next (i := .iload 7) (x' := (85, [(0, .ref a0), (3, .int xv3), (4, .int xv4), (5, .int xv5), (6, .int xv6), (7, .int xv7)], [.int xv7, va_rf r36], h)) rfl rfl rfl ?_
    refine xle_some (fun r_ => (85, [(0, .ref a0), (3, .int xv3), (4, .int xv4), (5, .int xv5), (6, .int xv6), (7, .int xv7)], [.int xv7, va_rf r_], h)) (fun a37 => ?_)
    refine xle_bald rfl rfl (fun x38 => ?_)
    refine xle_if (cd := .eq) (q := 103) rfl rfl rfl xc_eq (fun _ => ?_) (fun _ => ?_)
    · exact xle_jump rfl
    · refine xle_next (i := .aload_n 0) (x' := (90, [(0, .ref a0), (3, .int xv3), (4, .int xv4), (5, .int xv5), (6, .int xv6), (7, .int xv7)], [.ref a0], h)) rfl rfl rfl ?_
      refine xle_next (i := .iload 7) (x' := (92, [(0, .ref a0), (3, .int xv3), (4, .int xv4), (5, .int xv5), (6, .int xv6), (7, .int xv7)], [.int xv7, .ref a0], h)) rfl rfl rfl ?_
      refine xle_next (i := .iload 4) (x' := (94, [(0, .ref a0), (3, .int xv3), (4, .int xv4), (5, .int xv5), (6, .int xv6), (7, .int xv7)], [.int xv4, .int xv7, .ref a0], h)) rfl rfl rfl ?_
      refine xle_isO (i := .invokevirtual 149) (bq := a0) (ci := 6) (fo := (f_M_cameOf z [.ref a0, .int xv7, .int xv4] h).bind (xback 94 [(0, .ref a0), (3, .int xv3), (4, .int xv4), (5, .int xv5), (6, .int xv6), (7, .int xv7)] [])) rfl rfl rfl (fun hs => ?_)
      refine xle_clI (t := []) rfl rfl hs (fun x40 h39 => ?_)
      refine xle_if (cd := .eq) (q := 103) rfl rfl rfl xc_eq (fun _ => ?_) (fun _ => ?_)
      · exact xle_jump rfl
      · refine xle_next (i := .iinc 6 1) (x' := (103, [(0, .ref a0), (3, .int xv3), (4, .int xv4), (5, .int xv5), (6, .int (xv6 + Int32.ofInt 1)), (7, .int xv7)], [], h39)) rfl rfl rfl ?_
        exact xle_jump rfl
noncomputable def D_M_look_194 (z : xzs) (xs0 : Int32) (h : xH) : Option xR :=
  some (.inl (some (.int xs0)), h)
set_option maxRecDepth 20000 in
theorem E_M_look_194 (z : xzs) (xs0 : Int32) (h : xH) : xle (D_M_look_194 z xs0 h) (B_M_look_194 z xs0 h) := by
  unfold D_M_look_194 B_M_look_194
  exact xle_end (i := .ireturn) rfl rfl rfl
noncomputable def D_M_look_103 (z : xzs) (a0 : Nat) (xv3 : Int32) (xv4 : Int32) (xv5 : Int32) (xv6 : Int32) (xv7 : Int32) (h : xH) : Option xR :=
  B_M_look_70 z a0 xv3 xv4 xv5 xv6 (xv7 + Int32.ofInt 1) h
set_option maxRecDepth 20000 in
theorem E_M_look_103 (z : xzs) (a0 : Nat) (xv3 : Int32) (xv4 : Int32) (xv5 : Int32) (xv6 : Int32) (xv7 : Int32) (h : xH) : xle (D_M_look_103 z a0 xv3 xv4 xv5 xv6 xv7 h) (B_M_look_103 z a0 xv3 xv4 xv5 xv6 xv7 h) := by
  unfold D_M_look_103 B_M_look_103
  refine xle_next (i := .iinc 7 1) (x' := (106, [(0, .ref a0), (3, .int xv3), (4, .int xv4), (5, .int xv5), (6, .int xv6), (7, .int (xv7 + Int32.ofInt 1))], [], h)) rfl rfl rfl ?_
  refine xle_next (i := .goto (-36)) (x' := (70, [(0, .ref a0), (3, .int xv3), (4, .int xv4), (5, .int xv5), (6, .int xv6), (7, .int (xv7 + Int32.ofInt 1))], [], h)) rfl rfl rfl ?_
  exact xle_jump rfl
noncomputable def B_M_count_9 (z : xzs) (a0 : Nat) (xv1 : Int32) (xv2 : Int32) (xv3 : Int32) (h : xH) : Option xR := xev (K_M_count z) (9, [(0, .ref a0), (1, .int xv1), (2, .int xv2), (3, .int xv3)], [], h)
noncomputable def B_M_count_39 (z : xzs) (a0 : Nat) (xv1 : Int32) (xv2 : Int32) (h : xH) : Option xR := xev (K_M_count z) (39, [(0, .ref a0), (1, .int xv1), (2, .int xv2)], [], h)
noncomputable def B_M_count_33 (z : xzs) (a0 : Nat) (xv1 : Int32) (xv2 : Int32) (xv3 : Int32) (h : xH) : Option xR := xev (K_M_count z) (33, [(0, .ref a0), (1, .int xv1), (2, .int xv2), (3, .int xv3)], [], h)
noncomputable def B_M_count_42 (z : xzs) (a0 : Nat) (xv1 : Int32) (xv2 : Int32) (xv3 : Int32) (h : xH) : Option xR := xev (K_M_count z) (42, [(0, .ref a0), (1, .int xv1), (2, .int xv2), (3, .int xv3)], [], h)
noncomputable def B_M_count_73 (z : xzs) (a0 : Nat) (xv1 : Int32) (xv2 : Int32) (h : xH) : Option xR := xev (K_M_count z) (73, [(0, .ref a0), (1, .int xv1), (2, .int xv2)], [], h)
noncomputable def B_M_count_67 (z : xzs) (a0 : Nat) (xv1 : Int32) (xv2 : Int32) (xv3 : Int32) (h : xH) : Option xR := xev (K_M_count z) (67, [(0, .ref a0), (1, .int xv1), (2, .int xv2), (3, .int xv3)], [], h)
noncomputable def B_M_count_75 (z : xzs) (a0 : Nat) (xv1 : Int32) (xv2 : Int32) (xv3 : Int32) (h : xH) : Option xR := xev (K_M_count z) (75, [(0, .ref a0), (1, .int xv1), (2, .int xv2), (3, .int xv3)], [], h)
noncomputable def B_M_count_133 (z : xzs) (a0 : Nat) (xv1 : Int32) (xv2 : Int32) (h : xH) : Option xR := xev (K_M_count z) (133, [(0, .ref a0), (1, .int xv1), (2, .int xv2)], [], h)
noncomputable def B_M_count_92 (z : xzs) (a0 : Nat) (xv1 : Int32) (xv2 : Int32) (xv3 : Int32) (xv4 : Int32) (xv5 : Int32) (h : xH) : Option xR := xev (K_M_count z) (92, [(0, .ref a0), (1, .int xv1), (2, .int xv2), (3, .int xv3), (4, .int xv4), (5, .int xv5)], [], h)
noncomputable def B_M_count_186 (z : xzs) (xs0 : Int32) (h : xH) : Option xR := xev (K_M_count z) (186, [], [.int xs0], h)
noncomputable def B_M_count_127 (z : xzs) (a0 : Nat) (xv1 : Int32) (xv2 : Int32) (xv3 : Int32) (h : xH) : Option xR := xev (K_M_count z) (127, [(0, .ref a0), (1, .int xv1), (2, .int xv2), (3, .int xv3)], [], h)
noncomputable def B_M_count_113 (z : xzs) (a0 : Nat) (xv1 : Int32) (xv2 : Int32) (xv3 : Int32) (xv4 : Int32) (xv5 : Int32) (h : xH) : Option xR := xev (K_M_count z) (113, [(0, .ref a0), (1, .int xv1), (2, .int xv2), (3, .int xv3), (4, .int xv4), (5, .int xv5)], [], h)
noncomputable def D_M_count_0 (z : xzs) (a0 : Nat) (p1 : Int32) (h : xH) : Option xR :=
  (xwr h a0 6 0 (.int (Int32.ofInt 0))).bind fun h1 =>
  B_M_count_9 z a0 p1 (Int32.ofInt 0) (Int32.ofInt 1) h1
set_option maxRecDepth 20000 in
theorem E_M_count (z : xzs) (a0 : Nat) (p1 : Int32) (h : xH) : xle (D_M_count_0 z a0 p1 h) (xfun (K_M_count z) 6 [.ref a0, .int p1] h) := by
  unfold D_M_count_0
  refine xle_entry (Nat.le_of_ble_eq_true rfl) (xal_c (xca_a _) (xal_c (xca_i _) (rfl))) ?_
  show xle _ (xev (K_M_count z) (0, [(0, .ref a0), (1, .int p1)], [], h))
  refine xle_next (i := .aload_n 0) (x' := (1, [(0, .ref a0), (1, .int p1)], [.ref a0], h)) rfl rfl rfl ?_
  refine xle_next (i := .iconst 0) (x' := (2, [(0, .ref a0), (1, .int p1)], [.int (Int32.ofInt 0), .ref a0], h)) rfl rfl rfl ?_
  refine xle_put (v := .int (Int32.ofInt 0)) (f := (6, 0, .int, 1)) rfl rfl rfl ⟨by decide, rfl, rfl⟩ (fun h1 => ?_)
  refine xle_next (i := .iconst 0) (x' := (6, [(0, .ref a0), (1, .int p1)], [.int (Int32.ofInt 0)], h1)) rfl rfl rfl ?_
  refine xle_next (i := .istore_n 2) (x' := (7, [(0, .ref a0), (1, .int p1), (2, .int (Int32.ofInt 0))], [], h1)) rfl rfl rfl ?_
  refine xle_next (i := .iconst 1) (x' := (8, [(0, .ref a0), (1, .int p1), (2, .int (Int32.ofInt 0))], [.int (Int32.ofInt 1)], h1)) rfl rfl rfl ?_
  refine xle_next (i := .istore_n 3) (x' := (9, [(0, .ref a0), (1, .int p1), (2, .int (Int32.ofInt 0)), (3, .int (Int32.ofInt 1))], [], h1)) rfl rfl rfl ?_
  exact xle_jump rfl
noncomputable def D_M_count_9 (z : xzs) (a0 : Nat) (xv1 : Int32) (xv2 : Int32) (xv3 : Int32) (h : xH) : Option xR :=
  (rdI h a0 6 13).bind fun x2 =>
  if x2 < xv3 then
    B_M_count_39 z a0 xv1 xv2 h
  else
    if ¬ xv1 = 0 then
      B_M_count_39 z a0 xv1 xv2 h
    else
      (rdR h a0 6 12).bind fun r3 =>
      r3.bind fun a4 =>
      (rdA 1 h a4 xv3).bind fun x5 =>
      if x5 = 0 then
        B_M_count_33 z a0 xv1 xv2 xv3 h
      else
        B_M_count_33 z a0 xv1 (xv2 + Int32.ofInt 1) xv3 h
set_option maxRecDepth 20000 in
theorem E_M_count_9 (z : xzs) (a0 : Nat) (xv1 : Int32) (xv2 : Int32) (xv3 : Int32) (h : xH) : xle (D_M_count_9 z a0 xv1 xv2 xv3 h) (B_M_count_9 z a0 xv1 xv2 xv3 h) := by
  unfold D_M_count_9 B_M_count_9
  refine xle_next (i := .iload_n 3) (x' := (10, [(0, .ref a0), (1, .int xv1), (2, .int xv2), (3, .int xv3)], [.int xv3], h)) rfl rfl rfl ?_
  refine xle_next (i := .aload_n 0) (x' := (11, [(0, .ref a0), (1, .int xv1), (2, .int xv2), (3, .int xv3)], [.ref a0, .int xv3], h)) rfl rfl rfl ?_
  refine xle_getI (f := (6, 13, .int, 1)) rfl rfl rfl (fun x2 => ?_)
  refine xle_icmp (cd := .gt) (q := 39) rfl rfl rfl xc_gt (fun _ => ?_) (fun _ => ?_)
  · exact xle_jump rfl
  · refine xle_next (i := .iload_n 1) (x' := (18, [(0, .ref a0), (1, .int xv1), (2, .int xv2), (3, .int xv3)], [.int xv1], h)) rfl rfl rfl ?_
    refine xle_if (cd := .ne) (q := 39) rfl rfl rfl xc_ne (fun _ => ?_) (fun _ => ?_)
    · exact xle_jump rfl
    · refine xle_next (i := .aload_n 0) (x' := (22, [(0, .ref a0), (1, .int xv1), (2, .int xv2), (3, .int xv3)], [.ref a0], h)) rfl rfl rfl ?_
      refine xle_getR (f := (6, 12, .array .boolean, 0)) rfl rfl rfl (fun r3 => ?_)
      refine xle_next (i := .iload_n 3) (x' := (26, [(0, .ref a0), (1, .int xv1), (2, .int xv2), (3, .int xv3)], [.int xv3, va_rf r3], h)) rfl rfl rfl ?_
      refine xle_some (fun r_ => (26, [(0, .ref a0), (1, .int xv1), (2, .int xv2), (3, .int xv3)], [.int xv3, va_rf r_], h)) (fun a4 => ?_)
      refine xle_bald rfl rfl (fun x5 => ?_)
      refine xle_if (cd := .eq) (q := 33) rfl rfl rfl xc_eq (fun _ => ?_) (fun _ => ?_)
      · exact xle_jump rfl
      · refine xle_next (i := .iinc 2 1) (x' := (33, [(0, .ref a0), (1, .int xv1), (2, .int (xv2 + Int32.ofInt 1)), (3, .int xv3)], [], h)) rfl rfl rfl ?_
        exact xle_jump rfl
noncomputable def D_M_count_39 (z : xzs) (a0 : Nat) (xv1 : Int32) (xv2 : Int32) (h : xH) : Option xR :=
  B_M_count_42 z a0 xv1 xv2 ((Int8.ofInt 10).toInt32) h
set_option maxRecDepth 20000 in
theorem E_M_count_39 (z : xzs) (a0 : Nat) (xv1 : Int32) (xv2 : Int32) (h : xH) : xle (D_M_count_39 z a0 xv1 xv2 h) (B_M_count_39 z a0 xv1 xv2 h) := by
  unfold D_M_count_39 B_M_count_39
  refine xle_next (i := .bipush 10) (x' := (41, [(0, .ref a0), (1, .int xv1), (2, .int xv2)], [.int ((Int8.ofInt 10).toInt32)], h)) rfl rfl rfl ?_
  refine xle_next (i := .istore_n 3) (x' := (42, [(0, .ref a0), (1, .int xv1), (2, .int xv2), (3, .int ((Int8.ofInt 10).toInt32))], [], h)) rfl rfl rfl ?_
  exact xle_jump rfl
noncomputable def D_M_count_33 (z : xzs) (a0 : Nat) (xv1 : Int32) (xv2 : Int32) (xv3 : Int32) (h : xH) : Option xR :=
  B_M_count_9 z a0 xv1 xv2 (xv3 + Int32.ofInt 1) h
set_option maxRecDepth 20000 in
theorem E_M_count_33 (z : xzs) (a0 : Nat) (xv1 : Int32) (xv2 : Int32) (xv3 : Int32) (h : xH) : xle (D_M_count_33 z a0 xv1 xv2 xv3 h) (B_M_count_33 z a0 xv1 xv2 xv3 h) := by
  unfold D_M_count_33 B_M_count_33
  refine xle_next (i := .iinc 3 1) (x' := (36, [(0, .ref a0), (1, .int xv1), (2, .int xv2), (3, .int (xv3 + Int32.ofInt 1))], [], h)) rfl rfl rfl ?_
  refine xle_next (i := .goto (-27)) (x' := (9, [(0, .ref a0), (1, .int xv1), (2, .int xv2), (3, .int (xv3 + Int32.ofInt 1))], [], h)) rfl rfl rfl ?_
  exact xle_jump rfl
noncomputable def D_M_count_42 (z : xzs) (a0 : Nat) (xv1 : Int32) (xv2 : Int32) (xv3 : Int32) (h : xH) : Option xR :=
  (rdI h a0 6 7).bind fun x6 =>
  if x6 ≤ xv3 then
    B_M_count_73 z a0 xv1 xv2 h
  else
    if ¬ xv1 = (Int32.ofInt 2) then
      B_M_count_73 z a0 xv1 xv2 h
    else
      (rdR h a0 6 6).bind fun r7 =>
      r7.bind fun a8 =>
      (rdA 1 h a8 xv3).bind fun x9 =>
      if x9 = 0 then
        B_M_count_67 z a0 xv1 xv2 xv3 h
      else
        B_M_count_67 z a0 xv1 (xv2 + Int32.ofInt 1) xv3 h
set_option maxRecDepth 20000 in
theorem E_M_count_42 (z : xzs) (a0 : Nat) (xv1 : Int32) (xv2 : Int32) (xv3 : Int32) (h : xH) : xle (D_M_count_42 z a0 xv1 xv2 xv3 h) (B_M_count_42 z a0 xv1 xv2 xv3 h) := by
  unfold D_M_count_42 B_M_count_42
  refine xle_next (i := .iload_n 3) (x' := (43, [(0, .ref a0), (1, .int xv1), (2, .int xv2), (3, .int xv3)], [.int xv3], h)) rfl rfl rfl ?_
  refine xle_next (i := .aload_n 0) (x' := (44, [(0, .ref a0), (1, .int xv1), (2, .int xv2), (3, .int xv3)], [.ref a0, .int xv3], h)) rfl rfl rfl ?_
  refine xle_getI (f := (6, 7, .int, 1)) rfl rfl rfl (fun x6 => ?_)
  refine xle_icmp (cd := .ge) (q := 73) rfl rfl rfl xc_ge (fun _ => ?_) (fun _ => ?_)
  · exact xle_jump rfl
  · refine xle_next (i := .iload_n 1) (x' := (51, [(0, .ref a0), (1, .int xv1), (2, .int xv2), (3, .int xv3)], [.int xv1], h)) rfl rfl rfl ?_
    refine xle_next (i := .iconst 2) (x' := (52, [(0, .ref a0), (1, .int xv1), (2, .int xv2), (3, .int xv3)], [.int (Int32.ofInt 2), .int xv1], h)) rfl rfl rfl ?_
    refine xle_icmp (cd := .ne) (q := 73) rfl rfl rfl xc_ne (fun _ => ?_) (fun _ => ?_)
    · exact xle_jump rfl
    · refine xle_next (i := .aload_n 0) (x' := (56, [(0, .ref a0), (1, .int xv1), (2, .int xv2), (3, .int xv3)], [.ref a0], h)) rfl rfl rfl ?_
      refine xle_getR (f := (6, 6, .array .boolean, 0)) rfl rfl rfl (fun r7 => ?_)
      refine xle_next (i := .iload_n 3) (x' := (60, [(0, .ref a0), (1, .int xv1), (2, .int xv2), (3, .int xv3)], [.int xv3, va_rf r7], h)) rfl rfl rfl ?_
      refine xle_some (fun r_ => (60, [(0, .ref a0), (1, .int xv1), (2, .int xv2), (3, .int xv3)], [.int xv3, va_rf r_], h)) (fun a8 => ?_)
      refine xle_bald rfl rfl (fun x9 => ?_)
      refine xle_if (cd := .eq) (q := 67) rfl rfl rfl xc_eq (fun _ => ?_) (fun _ => ?_)
      · exact xle_jump rfl
      · refine xle_next (i := .iinc 2 1) (x' := (67, [(0, .ref a0), (1, .int xv1), (2, .int (xv2 + Int32.ofInt 1)), (3, .int xv3)], [], h)) rfl rfl rfl ?_
        exact xle_jump rfl
noncomputable def D_M_count_73 (z : xzs) (a0 : Nat) (xv1 : Int32) (xv2 : Int32) (h : xH) : Option xR :=
  B_M_count_75 z a0 xv1 xv2 (Int32.ofInt 1) h
set_option maxRecDepth 20000 in
theorem E_M_count_73 (z : xzs) (a0 : Nat) (xv1 : Int32) (xv2 : Int32) (h : xH) : xle (D_M_count_73 z a0 xv1 xv2 h) (B_M_count_73 z a0 xv1 xv2 h) := by
  unfold D_M_count_73 B_M_count_73
  refine xle_next (i := .iconst 1) (x' := (74, [(0, .ref a0), (1, .int xv1), (2, .int xv2)], [.int (Int32.ofInt 1)], h)) rfl rfl rfl ?_
  refine xle_next (i := .istore_n 3) (x' := (75, [(0, .ref a0), (1, .int xv1), (2, .int xv2), (3, .int (Int32.ofInt 1))], [], h)) rfl rfl rfl ?_
  exact xle_jump rfl
noncomputable def D_M_count_67 (z : xzs) (a0 : Nat) (xv1 : Int32) (xv2 : Int32) (xv3 : Int32) (h : xH) : Option xR :=
  B_M_count_42 z a0 xv1 xv2 (xv3 + Int32.ofInt 1) h
set_option maxRecDepth 20000 in
theorem E_M_count_67 (z : xzs) (a0 : Nat) (xv1 : Int32) (xv2 : Int32) (xv3 : Int32) (h : xH) : xle (D_M_count_67 z a0 xv1 xv2 xv3 h) (B_M_count_67 z a0 xv1 xv2 xv3 h) := by
  unfold D_M_count_67 B_M_count_67
  refine xle_next (i := .iinc 3 1) (x' := (70, [(0, .ref a0), (1, .int xv1), (2, .int xv2), (3, .int (xv3 + Int32.ofInt 1))], [], h)) rfl rfl rfl ?_
  refine xle_next (i := .goto (-28)) (x' := (42, [(0, .ref a0), (1, .int xv1), (2, .int xv2), (3, .int (xv3 + Int32.ofInt 1))], [], h)) rfl rfl rfl ?_
  exact xle_jump rfl
noncomputable def D_M_count_75 (z : xzs) (a0 : Nat) (xv1 : Int32) (xv2 : Int32) (xv3 : Int32) (h : xH) : Option xR :=
  if ((Int8.ofInt 7).toInt32) ≤ xv3 then
    B_M_count_133 z a0 xv1 xv2 h
  else
    if ¬ xv1 = (Int32.ofInt 5) then
      B_M_count_133 z a0 xv1 xv2 h
    else
      B_M_count_92 z a0 xv1 xv2 xv3 (Int32.ofInt 0) (Int32.ofInt 0) h
set_option maxRecDepth 20000 in
theorem E_M_count_75 (z : xzs) (a0 : Nat) (xv1 : Int32) (xv2 : Int32) (xv3 : Int32) (h : xH) : xle (D_M_count_75 z a0 xv1 xv2 xv3 h) (B_M_count_75 z a0 xv1 xv2 xv3 h) := by
  unfold D_M_count_75 B_M_count_75
  refine xle_next (i := .iload_n 3) (x' := (76, [(0, .ref a0), (1, .int xv1), (2, .int xv2), (3, .int xv3)], [.int xv3], h)) rfl rfl rfl ?_
  refine xle_next (i := .bipush 7) (x' := (78, [(0, .ref a0), (1, .int xv1), (2, .int xv2), (3, .int xv3)], [.int ((Int8.ofInt 7).toInt32), .int xv3], h)) rfl rfl rfl ?_
  refine xle_icmp (cd := .ge) (q := 133) rfl rfl rfl xc_ge (fun _ => ?_) (fun _ => ?_)
  · exact xle_jump rfl
  · refine xle_next (i := .iload_n 1) (x' := (82, [(0, .ref a0), (1, .int xv1), (2, .int xv2), (3, .int xv3)], [.int xv1], h)) rfl rfl rfl ?_
    refine xle_next (i := .iconst 5) (x' := (83, [(0, .ref a0), (1, .int xv1), (2, .int xv2), (3, .int xv3)], [.int (Int32.ofInt 5), .int xv1], h)) rfl rfl rfl ?_
    refine xle_icmp (cd := .ne) (q := 133) rfl rfl rfl xc_ne (fun _ => ?_) (fun _ => ?_)
    · exact xle_jump rfl
    · refine xle_next (i := .iconst 0) (x' := (87, [(0, .ref a0), (1, .int xv1), (2, .int xv2), (3, .int xv3)], [.int (Int32.ofInt 0)], h)) rfl rfl rfl ?_
      refine xle_next (i := .istore 4) (x' := (89, [(0, .ref a0), (1, .int xv1), (2, .int xv2), (3, .int xv3), (4, .int (Int32.ofInt 0))], [], h)) rfl rfl rfl ?_
      refine xle_next (i := .iconst 0) (x' := (90, [(0, .ref a0), (1, .int xv1), (2, .int xv2), (3, .int xv3), (4, .int (Int32.ofInt 0))], [.int (Int32.ofInt 0)], h)) rfl rfl rfl ?_
      refine xle_next (i := .istore 5) (x' := (92, [(0, .ref a0), (1, .int xv1), (2, .int xv2), (3, .int xv3), (4, .int (Int32.ofInt 0)), (5, .int (Int32.ofInt 0))], [], h)) rfl rfl rfl ?_
      exact xle_jump rfl
noncomputable def D_M_count_133 (z : xzs) (a0 : Nat) (xv1 : Int32) (xv2 : Int32) (h : xH) : Option xR :=
  if ¬ xv1 = (Int32.ofInt 1) then
    if ¬ xv1 = (Int32.ofInt 3) then
      if ¬ xv1 = (Int32.ofInt 4) then
        xclI (f_M_within z [.int xv1, .int (Int32.ofInt 0), .int (Int32.ofInt 5)] h) fun x11 h10 =>
        if x11 = 0 then
          B_M_count_186 z (Int32.ofInt (-1)) h10
        else
          B_M_count_186 z xv2 h10
      else
        (rdI h a0 6 37).bind fun x12 =>
        B_M_count_186 z x12 h
    else
      (rdI h a0 6 36).bind fun x13 =>
      B_M_count_186 z x13 h
  else
    (rdI h a0 6 7).bind fun x14 =>
    B_M_count_186 z (x14 - ((Int8.ofInt 10).toInt32)) h
set_option maxRecDepth 20000 in
theorem E_M_count_133 (z : xzs) (a0 : Nat) (xv1 : Int32) (xv2 : Int32) (h : xH) : xle (D_M_count_133 z a0 xv1 xv2 h) (B_M_count_133 z a0 xv1 xv2 h) := by
  unfold D_M_count_133 B_M_count_133
  refine xle_next (i := .iload_n 1) (x' := (134, [(0, .ref a0), (1, .int xv1), (2, .int xv2)], [.int xv1], h)) rfl rfl rfl ?_
  refine xle_next (i := .iconst 1) (x' := (135, [(0, .ref a0), (1, .int xv1), (2, .int xv2)], [.int (Int32.ofInt 1), .int xv1], h)) rfl rfl rfl ?_
  refine xle_icmp (cd := .ne) (q := 148) rfl rfl rfl xc_ne (fun _ => ?_) (fun _ => ?_)
  · refine xle_next (i := .iload_n 1) (x' := (149, [(0, .ref a0), (1, .int xv1), (2, .int xv2)], [.int xv1], h)) rfl rfl rfl ?_
    refine xle_next (i := .iconst 3) (x' := (150, [(0, .ref a0), (1, .int xv1), (2, .int xv2)], [.int (Int32.ofInt 3), .int xv1], h)) rfl rfl rfl ?_
    refine xle_icmp (cd := .ne) (q := 160) rfl rfl rfl xc_ne (fun _ => ?_) (fun _ => ?_)
    · refine xle_next (i := .iload_n 1) (x' := (161, [(0, .ref a0), (1, .int xv1), (2, .int xv2)], [.int xv1], h)) rfl rfl rfl ?_
      refine xle_next (i := .iconst 4) (x' := (162, [(0, .ref a0), (1, .int xv1), (2, .int xv2)], [.int (Int32.ofInt 4), .int xv1], h)) rfl rfl rfl ?_
      refine xle_icmp (cd := .ne) (q := 172) rfl rfl rfl xc_ne (fun _ => ?_) (fun _ => ?_)
      · refine xle_next (i := .iload_n 1) (x' := (173, [(0, .ref a0), (1, .int xv1), (2, .int xv2)], [.int xv1], h)) rfl rfl rfl ?_
        refine xle_next (i := .iconst 0) (x' := (174, [(0, .ref a0), (1, .int xv1), (2, .int xv2)], [.int (Int32.ofInt 0), .int xv1], h)) rfl rfl rfl ?_
        refine xle_next (i := .iconst 5) (x' := (175, [(0, .ref a0), (1, .int xv1), (2, .int xv2)], [.int (Int32.ofInt 5), .int (Int32.ofInt 0), .int xv1], h)) rfl rfl rfl ?_
        refine xle_clI (i := .invokestatic 169) (fo := f_M_within z [.int xv1, .int (Int32.ofInt 0), .int (Int32.ofInt 5)] h) (t := []) rfl rfl rfl (fun x11 h10 => ?_)
        refine xle_if (cd := .eq) (q := 185) rfl rfl rfl xc_eq (fun _ => ?_) (fun _ => ?_)
        · refine xle_next (i := .iconst (-1)) (x' := (186, [(0, .ref a0), (1, .int xv1), (2, .int xv2)], [.int (Int32.ofInt (-1))], h10)) rfl rfl rfl ?_
          exact xle_jump rfl
        · refine xle_next (i := .iload_n 2) (x' := (182, [(0, .ref a0), (1, .int xv1), (2, .int xv2)], [.int xv2], h10)) rfl rfl rfl ?_
          refine xle_next (i := .goto 4) (x' := (186, [(0, .ref a0), (1, .int xv1), (2, .int xv2)], [.int xv2], h10)) rfl rfl rfl ?_
          exact xle_jump rfl
      · refine xle_next (i := .aload_n 0) (x' := (166, [(0, .ref a0), (1, .int xv1), (2, .int xv2)], [.ref a0], h)) rfl rfl rfl ?_
        refine xle_getI (f := (6, 37, .int, 1)) rfl rfl rfl (fun x12 => ?_)
        refine xle_next (i := .goto 17) (x' := (186, [(0, .ref a0), (1, .int xv1), (2, .int xv2)], [.int x12], h)) rfl rfl rfl ?_
        exact xle_jump rfl
    · refine xle_next (i := .aload_n 0) (x' := (154, [(0, .ref a0), (1, .int xv1), (2, .int xv2)], [.ref a0], h)) rfl rfl rfl ?_
      refine xle_getI (f := (6, 36, .int, 1)) rfl rfl rfl (fun x13 => ?_)
      refine xle_next (i := .goto 29) (x' := (186, [(0, .ref a0), (1, .int xv1), (2, .int xv2)], [.int x13], h)) rfl rfl rfl ?_
      exact xle_jump rfl
  · refine xle_next (i := .aload_n 0) (x' := (139, [(0, .ref a0), (1, .int xv1), (2, .int xv2)], [.ref a0], h)) rfl rfl rfl ?_
    refine xle_getI (f := (6, 7, .int, 1)) rfl rfl rfl (fun x14 => ?_)
    refine xle_next (i := .bipush 10) (x' := (144, [(0, .ref a0), (1, .int xv1), (2, .int xv2)], [.int ((Int8.ofInt 10).toInt32), .int x14], h)) rfl rfl rfl ?_
    refine xle_next (i := .isub) (x' := (145, [(0, .ref a0), (1, .int xv1), (2, .int xv2)], [.int (x14 - ((Int8.ofInt 10).toInt32))], h)) rfl rfl rfl ?_
    refine xle_next (i := .goto 41) (x' := (186, [(0, .ref a0), (1, .int xv1), (2, .int xv2)], [.int (x14 - ((Int8.ofInt 10).toInt32))], h)) rfl rfl rfl ?_
    exact xle_jump rfl
noncomputable def D_M_count_92 (z : xzs) (a0 : Nat) (xv1 : Int32) (xv2 : Int32) (xv3 : Int32) (xv4 : Int32) (xv5 : Int32) (h : xH) : Option xR :=
  if ((Int8.ofInt 16).toInt32) ≤ xv5 then
    if ¬ xv4 = 0 then
      B_M_count_127 z a0 xv1 xv2 xv3 h
    else
      B_M_count_127 z a0 xv1 (xv2 + Int32.ofInt 1) xv3 h
  else
    (rdR h a0 6 34).bind fun r15 =>
    r15.bind fun a16 =>
    (rdA 0 h a16 xv5).bind fun x17 =>
    if ¬ x17 = xv3 then
      B_M_count_113 z a0 xv1 xv2 xv3 xv4 xv5 h
    else
      B_M_count_113 z a0 xv1 xv2 xv3 (Int32.ofInt 1) xv5 h
set_option maxRecDepth 20000 in
theorem E_M_count_92 (z : xzs) (a0 : Nat) (xv1 : Int32) (xv2 : Int32) (xv3 : Int32) (xv4 : Int32) (xv5 : Int32) (h : xH) : xle (D_M_count_92 z a0 xv1 xv2 xv3 xv4 xv5 h) (B_M_count_92 z a0 xv1 xv2 xv3 xv4 xv5 h) := by
  unfold D_M_count_92 B_M_count_92
  refine xle_next (i := .iload 5) (x' := (94, [(0, .ref a0), (1, .int xv1), (2, .int xv2), (3, .int xv3), (4, .int xv4), (5, .int xv5)], [.int xv5], h)) rfl rfl rfl ?_
  refine xle_next (i := .bipush 16) (x' := (96, [(0, .ref a0), (1, .int xv1), (2, .int xv2), (3, .int xv3), (4, .int xv4), (5, .int xv5)], [.int ((Int8.ofInt 16).toInt32), .int xv5], h)) rfl rfl rfl ?_
  refine xle_icmp (cd := .ge) (q := 119) rfl rfl rfl xc_ge (fun _ => ?_) (fun _ => ?_)
  · refine xle_next (i := .iload 4) (x' := (121, [(0, .ref a0), (1, .int xv1), (2, .int xv2), (3, .int xv3), (4, .int xv4), (5, .int xv5)], [.int xv4], h)) rfl rfl rfl ?_
    refine xle_if (cd := .ne) (q := 127) rfl rfl rfl xc_ne (fun _ => ?_) (fun _ => ?_)
    · exact xle_jump rfl
    · refine xle_next (i := .iinc 2 1) (x' := (127, [(0, .ref a0), (1, .int xv1), (2, .int (xv2 + Int32.ofInt 1)), (3, .int xv3), (4, .int xv4), (5, .int xv5)], [], h)) rfl rfl rfl ?_
      exact xle_jump rfl
  · refine xle_next (i := .aload_n 0) (x' := (100, [(0, .ref a0), (1, .int xv1), (2, .int xv2), (3, .int xv3), (4, .int xv4), (5, .int xv5)], [.ref a0], h)) rfl rfl rfl ?_
    refine xle_getR (f := (6, 34, .array .int, 0)) rfl rfl rfl (fun r15 => ?_)
    refine xle_next (i := .iload 5) (x' := (105, [(0, .ref a0), (1, .int xv1), (2, .int xv2), (3, .int xv3), (4, .int xv4), (5, .int xv5)], [.int xv5, va_rf r15], h)) rfl rfl rfl ?_
    refine xle_some (fun r_ => (105, [(0, .ref a0), (1, .int xv1), (2, .int xv2), (3, .int xv3), (4, .int xv4), (5, .int xv5)], [.int xv5, va_rf r_], h)) (fun a16 => ?_)
    refine xle_iald rfl rfl (fun x17 => ?_)
    refine xle_next (i := .iload_n 3) (x' := (107, [(0, .ref a0), (1, .int xv1), (2, .int xv2), (3, .int xv3), (4, .int xv4), (5, .int xv5)], [.int xv3, .int x17], h)) rfl rfl rfl ?_
    refine xle_icmp (cd := .ne) (q := 113) rfl rfl rfl xc_ne (fun _ => ?_) (fun _ => ?_)
    · exact xle_jump rfl
    · refine xle_next (i := .iconst 1) (x' := (111, [(0, .ref a0), (1, .int xv1), (2, .int xv2), (3, .int xv3), (4, .int xv4), (5, .int xv5)], [.int (Int32.ofInt 1)], h)) rfl rfl rfl ?_
      refine xle_next (i := .istore 4) (x' := (113, [(0, .ref a0), (1, .int xv1), (2, .int xv2), (3, .int xv3), (4, .int (Int32.ofInt 1)), (5, .int xv5)], [], h)) rfl rfl rfl ?_
      exact xle_jump rfl
noncomputable def D_M_count_186 (z : xzs) (xs0 : Int32) (h : xH) : Option xR :=
  some (.inl (some (.int xs0)), h)
set_option maxRecDepth 20000 in
theorem E_M_count_186 (z : xzs) (xs0 : Int32) (h : xH) : xle (D_M_count_186 z xs0 h) (B_M_count_186 z xs0 h) := by
  unfold D_M_count_186 B_M_count_186
  exact xle_end (i := .ireturn) rfl rfl rfl
noncomputable def D_M_count_127 (z : xzs) (a0 : Nat) (xv1 : Int32) (xv2 : Int32) (xv3 : Int32) (h : xH) : Option xR :=
  B_M_count_75 z a0 xv1 xv2 (xv3 + Int32.ofInt 1) h
set_option maxRecDepth 20000 in
theorem E_M_count_127 (z : xzs) (a0 : Nat) (xv1 : Int32) (xv2 : Int32) (xv3 : Int32) (h : xH) : xle (D_M_count_127 z a0 xv1 xv2 xv3 h) (B_M_count_127 z a0 xv1 xv2 xv3 h) := by
  unfold D_M_count_127 B_M_count_127
  refine xle_next (i := .iinc 3 1) (x' := (130, [(0, .ref a0), (1, .int xv1), (2, .int xv2), (3, .int (xv3 + Int32.ofInt 1))], [], h)) rfl rfl rfl ?_
  refine xle_next (i := .goto (-55)) (x' := (75, [(0, .ref a0), (1, .int xv1), (2, .int xv2), (3, .int (xv3 + Int32.ofInt 1))], [], h)) rfl rfl rfl ?_
  exact xle_jump rfl
noncomputable def D_M_count_113 (z : xzs) (a0 : Nat) (xv1 : Int32) (xv2 : Int32) (xv3 : Int32) (xv4 : Int32) (xv5 : Int32) (h : xH) : Option xR :=
  B_M_count_92 z a0 xv1 xv2 xv3 xv4 (xv5 + Int32.ofInt 1) h
set_option maxRecDepth 20000 in
theorem E_M_count_113 (z : xzs) (a0 : Nat) (xv1 : Int32) (xv2 : Int32) (xv3 : Int32) (xv4 : Int32) (xv5 : Int32) (h : xH) : xle (D_M_count_113 z a0 xv1 xv2 xv3 xv4 xv5 h) (B_M_count_113 z a0 xv1 xv2 xv3 xv4 xv5 h) := by
  unfold D_M_count_113 B_M_count_113
  refine xle_next (i := .iinc 5 1) (x' := (116, [(0, .ref a0), (1, .int xv1), (2, .int xv2), (3, .int xv3), (4, .int xv4), (5, .int (xv5 + Int32.ofInt 1))], [], h)) rfl rfl rfl ?_
  refine xle_next (i := .goto (-24)) (x' := (92, [(0, .ref a0), (1, .int xv1), (2, .int xv2), (3, .int xv3), (4, .int xv4), (5, .int (xv5 + Int32.ofInt 1))], [], h)) rfl rfl rfl ?_
  exact xle_jump rfl
