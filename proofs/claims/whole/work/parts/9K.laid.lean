/-! The law's methods that catch: words, tables, contracts; the law's own table. Laid by law.py. -/
theorem wd_441 : Cond.classLink "CapKernelLaw" 13 "java/lang/IllegalArgumentException" ∈ xT := xT_at 441 (by decide +kernel) (by decide +kernel)
theorem wd_442 : Cond.classLink "CapKernelLaw" 15 "java/util/NoSuchElementException" ∈ xT := xT_at 442 (by decide +kernel) (by decide +kernel)
theorem wd_443 : Cond.classLink "CapKernelLaw" 17 "java/lang/UnsupportedOperationException" ∈ xT := xT_at 443 (by decide +kernel) (by decide +kernel)
theorem wd_444 : Cond.classLink "CapKernelLaw" 19 "java/lang/IllegalStateException" ∈ xT := xT_at 444 (by decide +kernel) (by decide +kernel)
theorem wcl : ∀ i, i < 4 → Cond.classLink "CapKernelLaw" (wCt i) (xcn i) ∈ xT := by
  intro i hi
  rcases (by omega : i = 0 ∨ i = 1 ∨ i = 2 ∨ i = 3) with rfl | rfl | rfl | rfl
  · exact wd_441
  · exact wd_442
  · exact wd_443
  · exact wd_444
def wGood (z : xzs) (l : Launch) (y : MethodName) (w : List Cond) (rF rL : Nat) (fk : xF) (As : List Value) : Prop := ∀ (x o : Nat) (h : xH) (r r' : xR) (fs : List Value), xat h x = some (.inr (0, fs)) → fk (.ref x :: As) h = some r → wRes o r = some r' →
  xMono h r'.2 ∧ (∃ v, r'.1 = .inl v) ∧ ∀ (D : va_G) (dA : Nat → ClassId), Met l y w (xRm rF rL h r'.2) (xPcN z D dA (.ref x :: (As ++ [.ref o])) h) (xQc D dA h r') (xn r'.2 - xn h) (r'.2.2.1 - h.2.1) (fun q => h.1 ≤ q)
def y_W_copy : MethodName := ⟨"CapKernelLaw", "copy", "(LCapKernel;III[J)I"⟩
def tb_W_copy : List (Nat × xI) := [(0, .aload 4), (2, .iconst 0), (3, .aload_n 0), (4, .iload_n 1), (5, .iload_n 2), (6, .iload_n 3), (7, .invokevirtual 7), (10, .i2l), (11, .lastore), (12, .goto 19), (15, .astore 5), (17, .iconst 1), (18, .ireturn), (19, .astore 5), (21, .iconst 2), (22, .ireturn), (23, .astore 5), (25, .iconst 3), (26, .ireturn), (27, .astore 5), (29, .iconst 4), (30, .ireturn), (31, .iconst 0), (32, .ireturn)]
theorem ck_W_copy : xchk method_3_code 6 tb_W_copy = true := by decide +kernel
def ph_W_copy : Nat → Nat
  | 0 => 15
  | 1 => 19
  | 2 => 23
  | _ => 27
theorem wt_W_copy (x o : Nat) (p0 p1 p2 : Int32) : wTab tb_W_copy 7 x o [.int p0, .int p1, .int p2] (xargs 0 (.ref x :: ([.int p0, .int p1, .int p2] ++ [.ref o]))) 12 ph_W_copy := by
  refine ⟨6, 7, [(0, .ref x), (1, .int p0), (2, .int p1), (3, .int p2), (4, .ref o)], rfl, by decide, rfl, rfl, rfl, ⟨2, 32, [(0, .ref x), (1, .int p0), (2, .int p1), (3, .int p2), (4, .ref o)], rfl, rfl⟩, fun i hi a => ?_⟩
  rcases (by omega : i = 0 ∨ i = 1 ∨ i = 2 ∨ i = 3) with rfl | rfl | rfl | rfl
  · exact ⟨2, 18, _, rfl, rfl⟩
  · exact ⟨2, 22, _, rfl, rfl⟩
  · exact ⟨2, 26, _, rfl, rfl⟩
  · exact ⟨2, 30, _, rfl, rfl⟩
theorem wd_445 : Cond.methodLink "CapKernelLaw" 7 y_K_copy ∈ xT := xT_at 445 (by decide +kernel) (by decide +kernel)
theorem wd_446 : Cond.instanceMethod y_K_copy ∈ xT := xT_at 446 (by decide +kernel) (by decide +kernel)
theorem wd_447 : Cond.selects "CapKernel" y_K_copy y_K_copy ∈ xT := xT_at 447 (by decide +kernel) (by decide +kernel)
abbrev w_W_copy : List Cond := Cond.codeWith y_W_copy method_3_code 6 (some .int) (wHh 12 ph_W_copy) :: xT
theorem wg_W_copy (z : xzs) (l : Launch) (hl : l.stackTraces = false) (p0 p1 p2 : Int32) : wGood z l y_W_copy w_W_copy (12 + 1) (8 + (7 + 11) + 464) (f_K_copy z) [.int p0, .int p1, .int p2] := fun x o h r r' fs h1 h2 h3 => wrap (n := 3) (cF := 12) (cL := 464) (maxL := 7) (by decide +kernel) rfl ck_W_copy (ct_K_copy z l hl) rfl np_K_copy rfl wd_448 wd_55 wd_445 wd_446 wd_447 wcl rfl (Nat.le_of_ble_eq_true rfl) (wt_W_copy x o p0 p1 p2) h1 h2 h3
theorem wd_440 : Cond.codeWith y_W_copy method_3_code 6 (some .int) (wHh 12 ph_W_copy) ∈ xT := xT_at 440 (by decide +kernel) (by decide +kernel)
def y_W_mint : MethodName := ⟨"CapKernelLaw", "mint", "(LCapKernel;IIII[J)I"⟩
def tb_W_mint : List (Nat × xI) := [(0, .aload 5), (2, .iconst 0), (3, .aload_n 0), (4, .iload_n 1), (5, .iload_n 2), (6, .iload_n 3), (7, .iload 4), (9, .invokevirtual 21), (12, .i2l), (13, .lastore), (14, .goto 19), (17, .astore 6), (19, .iconst 1), (20, .ireturn), (21, .astore 6), (23, .iconst 2), (24, .ireturn), (25, .astore 6), (27, .iconst 3), (28, .ireturn), (29, .astore 6), (31, .iconst 4), (32, .ireturn), (33, .iconst 0), (34, .ireturn)]
theorem ck_W_mint : xchk method_4_code 7 tb_W_mint = true := by decide +kernel
def ph_W_mint : Nat → Nat
  | 0 => 17
  | 1 => 21
  | 2 => 25
  | _ => 29
theorem wt_W_mint (x o : Nat) (p0 p1 p2 p3 : Int32) : wTab tb_W_mint 21 x o [.int p0, .int p1, .int p2, .int p3] (xargs 0 (.ref x :: ([.int p0, .int p1, .int p2, .int p3] ++ [.ref o]))) 14 ph_W_mint := by
  refine ⟨7, 9, [(0, .ref x), (1, .int p0), (2, .int p1), (3, .int p2), (4, .int p3), (5, .ref o)], rfl, by decide, rfl, rfl, rfl, ⟨2, 34, [(0, .ref x), (1, .int p0), (2, .int p1), (3, .int p2), (4, .int p3), (5, .ref o)], rfl, rfl⟩, fun i hi a => ?_⟩
  rcases (by omega : i = 0 ∨ i = 1 ∨ i = 2 ∨ i = 3) with rfl | rfl | rfl | rfl
  · exact ⟨2, 20, _, rfl, rfl⟩
  · exact ⟨2, 24, _, rfl, rfl⟩
  · exact ⟨2, 28, _, rfl, rfl⟩
  · exact ⟨2, 32, _, rfl, rfl⟩
theorem wd_586 : Cond.methodLink "CapKernelLaw" 21 y_K_mint ∈ xT := xT_at 586 (by decide +kernel) (by decide +kernel)
theorem wd_587 : Cond.instanceMethod y_K_mint ∈ xT := xT_at 587 (by decide +kernel) (by decide +kernel)
theorem wd_588 : Cond.selects "CapKernel" y_K_mint y_K_mint ∈ xT := xT_at 588 (by decide +kernel) (by decide +kernel)
abbrev w_W_mint : List Cond := Cond.codeWith y_W_mint method_4_code 7 (some .int) (wHh 14 ph_W_mint) :: xT
theorem wg_W_mint (z : xzs) (l : Launch) (hl : l.stackTraces = false) (p0 p1 p2 p3 : Int32) : wGood z l y_W_mint w_W_mint (12 + 1) (8 + (9 + 11) + 464) (f_K_mint z) [.int p0, .int p1, .int p2, .int p3] := fun x o h r r' fs h1 h2 h3 => wrap (n := 4) (cF := 12) (cL := 464) (maxL := 9) (by decide +kernel) rfl ck_W_mint (ct_K_mint z l hl) rfl np_K_mint rfl wd_589 wd_55 wd_586 wd_587 wd_588 wcl rfl (Nat.le_of_ble_eq_true rfl) (wt_W_mint x o p0 p1 p2 p3) h1 h2 h3
theorem wd_585 : Cond.codeWith y_W_mint method_4_code 7 (some .int) (wHh 14 ph_W_mint) ∈ xT := xT_at 585 (by decide +kernel) (by decide +kernel)
def y_W_move : MethodName := ⟨"CapKernelLaw", "move", "(LCapKernel;II[J)I"⟩
def tb_W_move : List (Nat × xI) := [(0, .aload_n 3), (1, .iconst 0), (2, .aload_n 0), (3, .iload_n 1), (4, .iload_n 2), (5, .invokevirtual 25), (8, .i2l), (9, .lastore), (10, .goto 19), (13, .astore 4), (15, .iconst 1), (16, .ireturn), (17, .astore 4), (19, .iconst 2), (20, .ireturn), (21, .astore 4), (23, .iconst 3), (24, .ireturn), (25, .astore 4), (27, .iconst 4), (28, .ireturn), (29, .iconst 0), (30, .ireturn)]
theorem ck_W_move : xchk method_5_code 5 tb_W_move = true := by decide +kernel
def ph_W_move : Nat → Nat
  | 0 => 13
  | 1 => 17
  | 2 => 21
  | _ => 25
theorem wt_W_move (x o : Nat) (p0 p1 : Int32) : wTab tb_W_move 25 x o [.int p0, .int p1] (xargs 0 (.ref x :: ([.int p0, .int p1] ++ [.ref o]))) 10 ph_W_move := by
  refine ⟨5, 5, [(0, .ref x), (1, .int p0), (2, .int p1), (3, .ref o)], rfl, by decide, rfl, rfl, rfl, ⟨2, 30, [(0, .ref x), (1, .int p0), (2, .int p1), (3, .ref o)], rfl, rfl⟩, fun i hi a => ?_⟩
  rcases (by omega : i = 0 ∨ i = 1 ∨ i = 2 ∨ i = 3) with rfl | rfl | rfl | rfl
  · exact ⟨2, 16, _, rfl, rfl⟩
  · exact ⟨2, 20, _, rfl, rfl⟩
  · exact ⟨2, 24, _, rfl, rfl⟩
  · exact ⟨2, 28, _, rfl, rfl⟩
theorem wd_596 : Cond.methodLink "CapKernelLaw" 25 y_K_move ∈ xT := xT_at 596 (by decide +kernel) (by decide +kernel)
theorem wd_597 : Cond.instanceMethod y_K_move ∈ xT := xT_at 597 (by decide +kernel) (by decide +kernel)
theorem wd_598 : Cond.selects "CapKernel" y_K_move y_K_move ∈ xT := xT_at 598 (by decide +kernel) (by decide +kernel)
abbrev w_W_move : List Cond := Cond.codeWith y_W_move method_5_code 5 (some .int) (wHh 10 ph_W_move) :: xT
theorem wg_W_move (z : xzs) (l : Launch) (hl : l.stackTraces = false) (p0 p1 : Int32) : wGood z l y_W_move w_W_move (12 + 1) (8 + (6 + 11) + 464) (f_K_move z) [.int p0, .int p1] := fun x o h r r' fs h1 h2 h3 => wrap (n := 2) (cF := 12) (cL := 464) (maxL := 6) (by decide +kernel) rfl ck_W_move (ct_K_move z l hl) rfl np_K_move rfl wd_599 wd_55 wd_596 wd_597 wd_598 wcl rfl (Nat.le_of_ble_eq_true rfl) (wt_W_move x o p0 p1) h1 h2 h3
theorem wd_595 : Cond.codeWith y_W_move method_5_code 5 (some .int) (wHh 10 ph_W_move) ∈ xT := xT_at 595 (by decide +kernel) (by decide +kernel)
def y_W_delete : MethodName := ⟨"CapKernelLaw", "delete", "(LCapKernel;I[J)I"⟩
def tb_W_delete : List (Nat × xI) := [(0, .aload_n 2), (1, .iconst 0), (2, .aload_n 0), (3, .iload_n 1), (4, .invokevirtual 29), (7, .i2l), (8, .lastore), (9, .goto 15), (12, .astore_n 3), (13, .iconst 1), (14, .ireturn), (15, .astore_n 3), (16, .iconst 2), (17, .ireturn), (18, .astore_n 3), (19, .iconst 3), (20, .ireturn), (21, .astore_n 3), (22, .iconst 4), (23, .ireturn), (24, .iconst 0), (25, .ireturn)]
theorem ck_W_delete : xchk method_6_code 4 tb_W_delete = true := by decide +kernel
def ph_W_delete : Nat → Nat
  | 0 => 12
  | 1 => 15
  | 2 => 18
  | _ => 21
theorem wt_W_delete (x o : Nat) (p0 : Int32) : wTab tb_W_delete 29 x o [.int p0] (xargs 0 (.ref x :: ([.int p0] ++ [.ref o]))) 9 ph_W_delete := by
  refine ⟨4, 4, [(0, .ref x), (1, .int p0), (2, .ref o)], rfl, by decide, rfl, rfl, rfl, ⟨2, 25, [(0, .ref x), (1, .int p0), (2, .ref o)], rfl, rfl⟩, fun i hi a => ?_⟩
  rcases (by omega : i = 0 ∨ i = 1 ∨ i = 2 ∨ i = 3) with rfl | rfl | rfl | rfl
  · exact ⟨2, 14, _, rfl, rfl⟩
  · exact ⟨2, 17, _, rfl, rfl⟩
  · exact ⟨2, 20, _, rfl, rfl⟩
  · exact ⟨2, 23, _, rfl, rfl⟩
theorem wd_607 : Cond.methodLink "CapKernelLaw" 29 y_K_delete ∈ xT := xT_at 607 (by decide +kernel) (by decide +kernel)
theorem wd_608 : Cond.instanceMethod y_K_delete ∈ xT := xT_at 608 (by decide +kernel) (by decide +kernel)
theorem wd_609 : Cond.selects "CapKernel" y_K_delete y_K_delete ∈ xT := xT_at 609 (by decide +kernel) (by decide +kernel)
abbrev w_W_delete : List Cond := Cond.codeWith y_W_delete method_6_code 4 (some .int) (wHh 9 ph_W_delete) :: xT
theorem wg_W_delete (z : xzs) (l : Launch) (hl : l.stackTraces = false) (p0 : Int32) : wGood z l y_W_delete w_W_delete (141 + 1) (8 + (3 + 11) + 12023) (f_K_delete z) [.int p0] := fun x o h r r' fs h1 h2 h3 => wrap (n := 1) (cF := 141) (cL := 12023) (maxL := 3) (by decide +kernel) rfl ck_W_delete (ct_K_delete z l hl) rfl np_K_delete rfl wd_610 wd_55 wd_607 wd_608 wd_609 wcl rfl (Nat.le_of_ble_eq_true rfl) (wt_W_delete x o p0) h1 h2 h3
theorem wd_606 : Cond.codeWith y_W_delete method_6_code 4 (some .int) (wHh 9 ph_W_delete) ∈ xT := xT_at 606 (by decide +kernel) (by decide +kernel)
def y_W_revoke : MethodName := ⟨"CapKernelLaw", "revoke", "(LCapKernel;I[J)I"⟩
def tb_W_revoke : List (Nat × xI) := [(0, .aload_n 2), (1, .iconst 0), (2, .aload_n 0), (3, .iload_n 1), (4, .invokevirtual 33), (7, .i2l), (8, .lastore), (9, .goto 15), (12, .astore_n 3), (13, .iconst 1), (14, .ireturn), (15, .astore_n 3), (16, .iconst 2), (17, .ireturn), (18, .astore_n 3), (19, .iconst 3), (20, .ireturn), (21, .astore_n 3), (22, .iconst 4), (23, .ireturn), (24, .iconst 0), (25, .ireturn)]
theorem ck_W_revoke : xchk method_7_code 4 tb_W_revoke = true := by decide +kernel
def ph_W_revoke : Nat → Nat
  | 0 => 12
  | 1 => 15
  | 2 => 18
  | _ => 21
theorem wt_W_revoke (x o : Nat) (p0 : Int32) : wTab tb_W_revoke 33 x o [.int p0] (xargs 0 (.ref x :: ([.int p0] ++ [.ref o]))) 9 ph_W_revoke := by
  refine ⟨4, 4, [(0, .ref x), (1, .int p0), (2, .ref o)], rfl, by decide, rfl, rfl, rfl, ⟨2, 25, [(0, .ref x), (1, .int p0), (2, .ref o)], rfl, rfl⟩, fun i hi a => ?_⟩
  rcases (by omega : i = 0 ∨ i = 1 ∨ i = 2 ∨ i = 3) with rfl | rfl | rfl | rfl
  · exact ⟨2, 14, _, rfl, rfl⟩
  · exact ⟨2, 17, _, rfl, rfl⟩
  · exact ⟨2, 20, _, rfl, rfl⟩
  · exact ⟨2, 23, _, rfl, rfl⟩
theorem wd_661 : Cond.methodLink "CapKernelLaw" 33 y_K_revoke ∈ xT := xT_at 661 (by decide +kernel) (by decide +kernel)
theorem wd_662 : Cond.instanceMethod y_K_revoke ∈ xT := xT_at 662 (by decide +kernel) (by decide +kernel)
theorem wd_663 : Cond.selects "CapKernel" y_K_revoke y_K_revoke ∈ xT := xT_at 663 (by decide +kernel) (by decide +kernel)
abbrev w_W_revoke : List Cond := Cond.codeWith y_W_revoke method_7_code 4 (some .int) (wHh 9 ph_W_revoke) :: xT
theorem wg_W_revoke (z : xzs) (l : Launch) (hl : l.stackTraces = false) (p0 : Int32) : wGood z l y_W_revoke w_W_revoke (142 + 1) (8 + (6 + 11) + 12047) (f_K_revoke z) [.int p0] := fun x o h r r' fs h1 h2 h3 => wrap (n := 1) (cF := 142) (cL := 12047) (maxL := 6) (by decide +kernel) rfl ck_W_revoke (ct_K_revoke z l hl) rfl np_K_revoke rfl wd_664 wd_55 wd_661 wd_662 wd_663 wcl rfl (Nat.le_of_ble_eq_true rfl) (wt_W_revoke x o p0) h1 h2 h3
theorem wd_660 : Cond.codeWith y_W_revoke method_7_code 4 (some .int) (wHh 9 ph_W_revoke) ∈ xT := xT_at 660 (by decide +kernel) (by decide +kernel)
def y_W_retype : MethodName := ⟨"CapKernelLaw", "retype", "(LCapKernel;III[J)I"⟩
def tb_W_retype : List (Nat × xI) := [(0, .aload 4), (2, .iconst 0), (3, .aload_n 0), (4, .iload_n 1), (5, .iload_n 2), (6, .iload_n 3), (7, .invokevirtual 36), (10, .i2l), (11, .lastore), (12, .goto 19), (15, .astore 5), (17, .iconst 1), (18, .ireturn), (19, .astore 5), (21, .iconst 2), (22, .ireturn), (23, .astore 5), (25, .iconst 3), (26, .ireturn), (27, .astore 5), (29, .iconst 4), (30, .ireturn), (31, .iconst 0), (32, .ireturn)]
theorem ck_W_retype : xchk method_8_code 6 tb_W_retype = true := by decide +kernel
def ph_W_retype : Nat → Nat
  | 0 => 15
  | 1 => 19
  | 2 => 23
  | _ => 27
theorem wt_W_retype (x o : Nat) (p0 p1 p2 : Int32) : wTab tb_W_retype 36 x o [.int p0, .int p1, .int p2] (xargs 0 (.ref x :: ([.int p0, .int p1, .int p2] ++ [.ref o]))) 12 ph_W_retype := by
  refine ⟨6, 7, [(0, .ref x), (1, .int p0), (2, .int p1), (3, .int p2), (4, .ref o)], rfl, by decide, rfl, rfl, rfl, ⟨2, 32, [(0, .ref x), (1, .int p0), (2, .int p1), (3, .int p2), (4, .ref o)], rfl, rfl⟩, fun i hi a => ?_⟩
  rcases (by omega : i = 0 ∨ i = 1 ∨ i = 2 ∨ i = 3) with rfl | rfl | rfl | rfl
  · exact ⟨2, 18, _, rfl, rfl⟩
  · exact ⟨2, 22, _, rfl, rfl⟩
  · exact ⟨2, 26, _, rfl, rfl⟩
  · exact ⟨2, 30, _, rfl, rfl⟩
theorem wd_680 : Cond.methodLink "CapKernelLaw" 36 y_K_retype ∈ xT := xT_at 680 (by decide +kernel) (by decide +kernel)
theorem wd_681 : Cond.instanceMethod y_K_retype ∈ xT := xT_at 681 (by decide +kernel) (by decide +kernel)
theorem wd_682 : Cond.selects "CapKernel" y_K_retype y_K_retype ∈ xT := xT_at 682 (by decide +kernel) (by decide +kernel)
abbrev w_W_retype : List Cond := Cond.codeWith y_W_retype method_8_code 6 (some .int) (wHh 12 ph_W_retype) :: xT
theorem wg_W_retype (z : xzs) (l : Launch) (hl : l.stackTraces = false) (p0 p1 p2 : Int32) : wGood z l y_W_retype w_W_retype (12 + 1) (8 + (10 + 11) + 464) (f_K_retype z) [.int p0, .int p1, .int p2] := fun x o h r r' fs h1 h2 h3 => wrap (n := 3) (cF := 12) (cL := 464) (maxL := 10) (by decide +kernel) rfl ck_W_retype (ct_K_retype z l hl) rfl np_K_retype rfl wd_683 wd_55 wd_680 wd_681 wd_682 wcl rfl (Nat.le_of_ble_eq_true rfl) (wt_W_retype x o p0 p1 p2) h1 h2 h3
theorem wd_679 : Cond.codeWith y_W_retype method_8_code 6 (some .int) (wHh 12 ph_W_retype) ∈ xT := xT_at 679 (by decide +kernel) (by decide +kernel)
def y_W_send : MethodName := ⟨"CapKernelLaw", "send", "(LCapKernel;III[J)I"⟩
def tb_W_send : List (Nat × xI) := [(0, .aload 4), (2, .iconst 0), (3, .aload_n 0), (4, .iload_n 1), (5, .iload_n 2), (6, .iload_n 3), (7, .invokevirtual 39), (10, .i2l), (11, .lastore), (12, .goto 19), (15, .astore 5), (17, .iconst 1), (18, .ireturn), (19, .astore 5), (21, .iconst 2), (22, .ireturn), (23, .astore 5), (25, .iconst 3), (26, .ireturn), (27, .astore 5), (29, .iconst 4), (30, .ireturn), (31, .iconst 0), (32, .ireturn)]
theorem ck_W_send : xchk method_9_code 6 tb_W_send = true := by decide +kernel
def ph_W_send : Nat → Nat
  | 0 => 15
  | 1 => 19
  | 2 => 23
  | _ => 27
theorem wt_W_send (x o : Nat) (p0 p1 p2 : Int32) : wTab tb_W_send 39 x o [.int p0, .int p1, .int p2] (xargs 0 (.ref x :: ([.int p0, .int p1, .int p2] ++ [.ref o]))) 12 ph_W_send := by
  refine ⟨6, 7, [(0, .ref x), (1, .int p0), (2, .int p1), (3, .int p2), (4, .ref o)], rfl, by decide, rfl, rfl, rfl, ⟨2, 32, [(0, .ref x), (1, .int p0), (2, .int p1), (3, .int p2), (4, .ref o)], rfl, rfl⟩, fun i hi a => ?_⟩
  rcases (by omega : i = 0 ∨ i = 1 ∨ i = 2 ∨ i = 3) with rfl | rfl | rfl | rfl
  · exact ⟨2, 18, _, rfl, rfl⟩
  · exact ⟨2, 22, _, rfl, rfl⟩
  · exact ⟨2, 26, _, rfl, rfl⟩
  · exact ⟨2, 30, _, rfl, rfl⟩
theorem wd_709 : Cond.methodLink "CapKernelLaw" 39 y_K_send ∈ xT := xT_at 709 (by decide +kernel) (by decide +kernel)
theorem wd_710 : Cond.instanceMethod y_K_send ∈ xT := xT_at 710 (by decide +kernel) (by decide +kernel)
theorem wd_711 : Cond.selects "CapKernel" y_K_send y_K_send ∈ xT := xT_at 711 (by decide +kernel) (by decide +kernel)
abbrev w_W_send : List Cond := Cond.codeWith y_W_send method_9_code 6 (some .int) (wHh 12 ph_W_send) :: xT
theorem wg_W_send (z : xzs) (l : Launch) (hl : l.stackTraces = false) (p0 p1 p2 : Int32) : wGood z l y_W_send w_W_send (13 + 1) (8 + (8 + 11) + 464) (f_K_send z) [.int p0, .int p1, .int p2] := fun x o h r r' fs h1 h2 h3 => wrap (n := 3) (cF := 13) (cL := 464) (maxL := 8) (by decide +kernel) rfl ck_W_send (ct_K_send z l hl) rfl np_K_send rfl wd_712 wd_55 wd_709 wd_710 wd_711 wcl rfl (Nat.le_of_ble_eq_true rfl) (wt_W_send x o p0 p1 p2) h1 h2 h3
theorem wd_708 : Cond.codeWith y_W_send method_9_code 6 (some .int) (wHh 12 ph_W_send) ∈ xT := xT_at 708 (by decide +kernel) (by decide +kernel)
def y_W_call : MethodName := ⟨"CapKernelLaw", "call", "(LCapKernel;II[J)I"⟩
def tb_W_call : List (Nat × xI) := [(0, .aload_n 3), (1, .iconst 0), (2, .aload_n 0), (3, .iload_n 1), (4, .iload_n 2), (5, .invokevirtual 42), (8, .i2l), (9, .lastore), (10, .goto 19), (13, .astore 4), (15, .iconst 1), (16, .ireturn), (17, .astore 4), (19, .iconst 2), (20, .ireturn), (21, .astore 4), (23, .iconst 3), (24, .ireturn), (25, .astore 4), (27, .iconst 4), (28, .ireturn), (29, .iconst 0), (30, .ireturn)]
theorem ck_W_call : xchk method_10_code 5 tb_W_call = true := by decide +kernel
def ph_W_call : Nat → Nat
  | 0 => 13
  | 1 => 17
  | 2 => 21
  | _ => 25
theorem wt_W_call (x o : Nat) (p0 p1 : Int32) : wTab tb_W_call 42 x o [.int p0, .int p1] (xargs 0 (.ref x :: ([.int p0, .int p1] ++ [.ref o]))) 10 ph_W_call := by
  refine ⟨5, 5, [(0, .ref x), (1, .int p0), (2, .int p1), (3, .ref o)], rfl, by decide, rfl, rfl, rfl, ⟨2, 30, [(0, .ref x), (1, .int p0), (2, .int p1), (3, .ref o)], rfl, rfl⟩, fun i hi a => ?_⟩
  rcases (by omega : i = 0 ∨ i = 1 ∨ i = 2 ∨ i = 3) with rfl | rfl | rfl | rfl
  · exact ⟨2, 16, _, rfl, rfl⟩
  · exact ⟨2, 20, _, rfl, rfl⟩
  · exact ⟨2, 24, _, rfl, rfl⟩
  · exact ⟨2, 28, _, rfl, rfl⟩
theorem wd_740 : Cond.methodLink "CapKernelLaw" 42 y_K_call ∈ xT := xT_at 740 (by decide +kernel) (by decide +kernel)
theorem wd_741 : Cond.instanceMethod y_K_call ∈ xT := xT_at 741 (by decide +kernel) (by decide +kernel)
theorem wd_742 : Cond.selects "CapKernel" y_K_call y_K_call ∈ xT := xT_at 742 (by decide +kernel) (by decide +kernel)
abbrev w_W_call : List Cond := Cond.codeWith y_W_call method_10_code 5 (some .int) (wHh 10 ph_W_call) :: xT
theorem wg_W_call (z : xzs) (l : Launch) (hl : l.stackTraces = false) (p0 p1 : Int32) : wGood z l y_W_call w_W_call (13 + 1) (8 + (6 + 11) + 464) (f_K_call z) [.int p0, .int p1] := fun x o h r r' fs h1 h2 h3 => wrap (n := 2) (cF := 13) (cL := 464) (maxL := 6) (by decide +kernel) rfl ck_W_call (ct_K_call z l hl) rfl np_K_call rfl wd_743 wd_55 wd_740 wd_741 wd_742 wcl rfl (Nat.le_of_ble_eq_true rfl) (wt_W_call x o p0 p1) h1 h2 h3
theorem wd_739 : Cond.codeWith y_W_call method_10_code 5 (some .int) (wHh 10 ph_W_call) ∈ xT := xT_at 739 (by decide +kernel) (by decide +kernel)
def y_W_receive : MethodName := ⟨"CapKernelLaw", "receive", "(LCapKernel;II[J)I"⟩
def tb_W_receive : List (Nat × xI) := [(0, .aload_n 3), (1, .iconst 0), (2, .aload_n 0), (3, .iload_n 1), (4, .iload_n 2), (5, .invokevirtual 45), (8, .i2l), (9, .lastore), (10, .goto 19), (13, .astore 4), (15, .iconst 1), (16, .ireturn), (17, .astore 4), (19, .iconst 2), (20, .ireturn), (21, .astore 4), (23, .iconst 3), (24, .ireturn), (25, .astore 4), (27, .iconst 4), (28, .ireturn), (29, .iconst 0), (30, .ireturn)]
theorem ck_W_receive : xchk method_11_code 5 tb_W_receive = true := by decide +kernel
def ph_W_receive : Nat → Nat
  | 0 => 13
  | 1 => 17
  | 2 => 21
  | _ => 25
theorem wt_W_receive (x o : Nat) (p0 p1 : Int32) : wTab tb_W_receive 45 x o [.int p0, .int p1] (xargs 0 (.ref x :: ([.int p0, .int p1] ++ [.ref o]))) 10 ph_W_receive := by
  refine ⟨5, 5, [(0, .ref x), (1, .int p0), (2, .int p1), (3, .ref o)], rfl, by decide, rfl, rfl, rfl, ⟨2, 30, [(0, .ref x), (1, .int p0), (2, .int p1), (3, .ref o)], rfl, rfl⟩, fun i hi a => ?_⟩
  rcases (by omega : i = 0 ∨ i = 1 ∨ i = 2 ∨ i = 3) with rfl | rfl | rfl | rfl
  · exact ⟨2, 16, _, rfl, rfl⟩
  · exact ⟨2, 20, _, rfl, rfl⟩
  · exact ⟨2, 24, _, rfl, rfl⟩
  · exact ⟨2, 28, _, rfl, rfl⟩
theorem wd_799 : Cond.methodLink "CapKernelLaw" 45 y_K_receive ∈ xT := xT_at 799 (by decide +kernel) (by decide +kernel)
theorem wd_800 : Cond.instanceMethod y_K_receive ∈ xT := xT_at 800 (by decide +kernel) (by decide +kernel)
theorem wd_801 : Cond.selects "CapKernel" y_K_receive y_K_receive ∈ xT := xT_at 801 (by decide +kernel) (by decide +kernel)
abbrev w_W_receive : List Cond := Cond.codeWith y_W_receive method_11_code 5 (some .int) (wHh 10 ph_W_receive) :: xT
theorem wg_W_receive (z : xzs) (l : Launch) (hl : l.stackTraces = false) (p0 p1 : Int32) : wGood z l y_W_receive w_W_receive (13 + 1) (8 + (7 + 11) + 464) (f_K_receive z) [.int p0, .int p1] := fun x o h r r' fs h1 h2 h3 => wrap (n := 2) (cF := 13) (cL := 464) (maxL := 7) (by decide +kernel) rfl ck_W_receive (ct_K_receive z l hl) rfl np_K_receive rfl wd_802 wd_55 wd_799 wd_800 wd_801 wcl rfl (Nat.le_of_ble_eq_true rfl) (wt_W_receive x o p0 p1) h1 h2 h3
theorem wd_798 : Cond.codeWith y_W_receive method_11_code 5 (some .int) (wHh 10 ph_W_receive) ∈ xT := xT_at 798 (by decide +kernel) (by decide +kernel)
def y_W_answer : MethodName := ⟨"CapKernelLaw", "answer", "(LCapKernel;I[J)I"⟩
def tb_W_answer : List (Nat × xI) := [(0, .aload_n 2), (1, .iconst 0), (2, .aload_n 0), (3, .iload_n 1), (4, .invokevirtual 48), (7, .i2l), (8, .lastore), (9, .goto 15), (12, .astore_n 3), (13, .iconst 1), (14, .ireturn), (15, .astore_n 3), (16, .iconst 2), (17, .ireturn), (18, .astore_n 3), (19, .iconst 3), (20, .ireturn), (21, .astore_n 3), (22, .iconst 4), (23, .ireturn), (24, .iconst 0), (25, .ireturn)]
theorem ck_W_answer : xchk method_12_code 4 tb_W_answer = true := by decide +kernel
def ph_W_answer : Nat → Nat
  | 0 => 12
  | 1 => 15
  | 2 => 18
  | _ => 21
theorem wt_W_answer (x o : Nat) (p0 : Int32) : wTab tb_W_answer 48 x o [.int p0] (xargs 0 (.ref x :: ([.int p0] ++ [.ref o]))) 9 ph_W_answer := by
  refine ⟨4, 4, [(0, .ref x), (1, .int p0), (2, .ref o)], rfl, by decide, rfl, rfl, rfl, ⟨2, 25, [(0, .ref x), (1, .int p0), (2, .ref o)], rfl, rfl⟩, fun i hi a => ?_⟩
  rcases (by omega : i = 0 ∨ i = 1 ∨ i = 2 ∨ i = 3) with rfl | rfl | rfl | rfl
  · exact ⟨2, 14, _, rfl, rfl⟩
  · exact ⟨2, 17, _, rfl, rfl⟩
  · exact ⟨2, 20, _, rfl, rfl⟩
  · exact ⟨2, 23, _, rfl, rfl⟩
theorem wd_810 : Cond.methodLink "CapKernelLaw" 48 y_K_answer ∈ xT := xT_at 810 (by decide +kernel) (by decide +kernel)
theorem wd_811 : Cond.instanceMethod y_K_answer ∈ xT := xT_at 811 (by decide +kernel) (by decide +kernel)
theorem wd_812 : Cond.selects "CapKernel" y_K_answer y_K_answer ∈ xT := xT_at 812 (by decide +kernel) (by decide +kernel)
abbrev w_W_answer : List Cond := Cond.codeWith y_W_answer method_12_code 4 (some .int) (wHh 9 ph_W_answer) :: xT
theorem wg_W_answer (z : xzs) (l : Launch) (hl : l.stackTraces = false) (p0 : Int32) : wGood z l y_W_answer w_W_answer (11 + 1) (8 + (4 + 11) + 441) (f_K_answer z) [.int p0] := fun x o h r r' fs h1 h2 h3 => wrap (n := 1) (cF := 11) (cL := 441) (maxL := 4) (by decide +kernel) rfl ck_W_answer (ct_K_answer z l hl) rfl np_K_answer rfl wd_813 wd_55 wd_810 wd_811 wd_812 wcl rfl (Nat.le_of_ble_eq_true rfl) (wt_W_answer x o p0) h1 h2 h3
theorem wd_809 : Cond.codeWith y_W_answer method_12_code 4 (some .int) (wHh 9 ph_W_answer) ∈ xT := xT_at 809 (by decide +kernel) (by decide +kernel)
def y_W_signal : MethodName := ⟨"CapKernelLaw", "signal", "(LCapKernel;I[J)I"⟩
def tb_W_signal : List (Nat × xI) := [(0, .aload_n 2), (1, .iconst 0), (2, .aload_n 0), (3, .iload_n 1), (4, .invokevirtual 51), (7, .i2l), (8, .lastore), (9, .goto 15), (12, .astore_n 3), (13, .iconst 1), (14, .ireturn), (15, .astore_n 3), (16, .iconst 2), (17, .ireturn), (18, .astore_n 3), (19, .iconst 3), (20, .ireturn), (21, .astore_n 3), (22, .iconst 4), (23, .ireturn), (24, .iconst 0), (25, .ireturn)]
theorem ck_W_signal : xchk method_13_code 4 tb_W_signal = true := by decide +kernel
def ph_W_signal : Nat → Nat
  | 0 => 12
  | 1 => 15
  | 2 => 18
  | _ => 21
theorem wt_W_signal (x o : Nat) (p0 : Int32) : wTab tb_W_signal 51 x o [.int p0] (xargs 0 (.ref x :: ([.int p0] ++ [.ref o]))) 9 ph_W_signal := by
  refine ⟨4, 4, [(0, .ref x), (1, .int p0), (2, .ref o)], rfl, by decide, rfl, rfl, rfl, ⟨2, 25, [(0, .ref x), (1, .int p0), (2, .ref o)], rfl, rfl⟩, fun i hi a => ?_⟩
  rcases (by omega : i = 0 ∨ i = 1 ∨ i = 2 ∨ i = 3) with rfl | rfl | rfl | rfl
  · exact ⟨2, 14, _, rfl, rfl⟩
  · exact ⟨2, 17, _, rfl, rfl⟩
  · exact ⟨2, 20, _, rfl, rfl⟩
  · exact ⟨2, 23, _, rfl, rfl⟩
theorem wd_817 : Cond.methodLink "CapKernelLaw" 51 y_K_signal ∈ xT := xT_at 817 (by decide +kernel) (by decide +kernel)
theorem wd_818 : Cond.instanceMethod y_K_signal ∈ xT := xT_at 818 (by decide +kernel) (by decide +kernel)
theorem wd_819 : Cond.selects "CapKernel" y_K_signal y_K_signal ∈ xT := xT_at 819 (by decide +kernel) (by decide +kernel)
abbrev w_W_signal : List Cond := Cond.codeWith y_W_signal method_13_code 4 (some .int) (wHh 9 ph_W_signal) :: xT
theorem wg_W_signal (z : xzs) (l : Launch) (hl : l.stackTraces = false) (p0 : Int32) : wGood z l y_W_signal w_W_signal (12 + 1) (8 + (6 + 11) + 464) (f_K_signal z) [.int p0] := fun x o h r r' fs h1 h2 h3 => wrap (n := 1) (cF := 12) (cL := 464) (maxL := 6) (by decide +kernel) rfl ck_W_signal (ct_K_signal z l hl) rfl np_K_signal rfl wd_820 wd_55 wd_817 wd_818 wd_819 wcl rfl (Nat.le_of_ble_eq_true rfl) (wt_W_signal x o p0) h1 h2 h3
theorem wd_816 : Cond.codeWith y_W_signal method_13_code 4 (some .int) (wHh 9 ph_W_signal) ∈ xT := xT_at 816 (by decide +kernel) (by decide +kernel)
def y_W_await : MethodName := ⟨"CapKernelLaw", "await", "(LCapKernel;I[J)I"⟩
def tb_W_await : List (Nat × xI) := [(0, .aload_n 2), (1, .iconst 0), (2, .aload_n 0), (3, .iload_n 1), (4, .invokevirtual 54), (7, .i2l), (8, .lastore), (9, .goto 15), (12, .astore_n 3), (13, .iconst 1), (14, .ireturn), (15, .astore_n 3), (16, .iconst 2), (17, .ireturn), (18, .astore_n 3), (19, .iconst 3), (20, .ireturn), (21, .astore_n 3), (22, .iconst 4), (23, .ireturn), (24, .iconst 0), (25, .ireturn)]
theorem ck_W_await : xchk method_14_code 4 tb_W_await = true := by decide +kernel
def ph_W_await : Nat → Nat
  | 0 => 12
  | 1 => 15
  | 2 => 18
  | _ => 21
theorem wt_W_await (x o : Nat) (p0 : Int32) : wTab tb_W_await 54 x o [.int p0] (xargs 0 (.ref x :: ([.int p0] ++ [.ref o]))) 9 ph_W_await := by
  refine ⟨4, 4, [(0, .ref x), (1, .int p0), (2, .ref o)], rfl, by decide, rfl, rfl, rfl, ⟨2, 25, [(0, .ref x), (1, .int p0), (2, .ref o)], rfl, rfl⟩, fun i hi a => ?_⟩
  rcases (by omega : i = 0 ∨ i = 1 ∨ i = 2 ∨ i = 3) with rfl | rfl | rfl | rfl
  · exact ⟨2, 14, _, rfl, rfl⟩
  · exact ⟨2, 17, _, rfl, rfl⟩
  · exact ⟨2, 20, _, rfl, rfl⟩
  · exact ⟨2, 23, _, rfl, rfl⟩
theorem wd_831 : Cond.methodLink "CapKernelLaw" 54 y_K_await ∈ xT := xT_at 831 (by decide +kernel) (by decide +kernel)
theorem wd_832 : Cond.instanceMethod y_K_await ∈ xT := xT_at 832 (by decide +kernel) (by decide +kernel)
theorem wd_833 : Cond.selects "CapKernel" y_K_await y_K_await ∈ xT := xT_at 833 (by decide +kernel) (by decide +kernel)
abbrev w_W_await : List Cond := Cond.codeWith y_W_await method_14_code 4 (some .int) (wHh 9 ph_W_await) :: xT
theorem wg_W_await (z : xzs) (l : Launch) (hl : l.stackTraces = false) (p0 : Int32) : wGood z l y_W_await w_W_await (12 + 1) (8 + (5 + 11) + 464) (f_K_await z) [.int p0] := fun x o h r r' fs h1 h2 h3 => wrap (n := 1) (cF := 12) (cL := 464) (maxL := 5) (by decide +kernel) rfl ck_W_await (ct_K_await z l hl) rfl np_K_await rfl wd_834 wd_55 wd_831 wd_832 wd_833 wcl rfl (Nat.le_of_ble_eq_true rfl) (wt_W_await x o p0) h1 h2 h3
theorem wd_830 : Cond.codeWith y_W_await method_14_code 4 (some .int) (wHh 9 ph_W_await) ∈ xT := xT_at 830 (by decide +kernel) (by decide +kernel)
def y_W_pass : MethodName := ⟨"CapKernelLaw", "pass", "(LCapKernel;[J)I"⟩
def tb_W_pass : List (Nat × xI) := [(0, .aload_n 1), (1, .iconst 0), (2, .aload_n 0), (3, .invokevirtual 57), (6, .i2l), (7, .lastore), (8, .goto 15), (11, .astore_n 2), (12, .iconst 1), (13, .ireturn), (14, .astore_n 2), (15, .iconst 2), (16, .ireturn), (17, .astore_n 2), (18, .iconst 3), (19, .ireturn), (20, .astore_n 2), (21, .iconst 4), (22, .ireturn), (23, .iconst 0), (24, .ireturn)]
theorem ck_W_pass : xchk method_15_code 3 tb_W_pass = true := by decide +kernel
def ph_W_pass : Nat → Nat
  | 0 => 11
  | 1 => 14
  | 2 => 17
  | _ => 20
theorem wt_W_pass (x o : Nat) : wTab tb_W_pass 57 x o [] (xargs 0 (.ref x :: ([] ++ [.ref o]))) 8 ph_W_pass := by
  refine ⟨3, 3, [(0, .ref x), (1, .ref o)], rfl, by decide, rfl, rfl, rfl, ⟨2, 24, [(0, .ref x), (1, .ref o)], rfl, rfl⟩, fun i hi a => ?_⟩
  rcases (by omega : i = 0 ∨ i = 1 ∨ i = 2 ∨ i = 3) with rfl | rfl | rfl | rfl
  · exact ⟨2, 13, _, rfl, rfl⟩
  · exact ⟨2, 16, _, rfl, rfl⟩
  · exact ⟨2, 19, _, rfl, rfl⟩
  · exact ⟨2, 22, _, rfl, rfl⟩
theorem wd_838 : Cond.methodLink "CapKernelLaw" 57 y_K_pass ∈ xT := xT_at 838 (by decide +kernel) (by decide +kernel)
theorem wd_839 : Cond.instanceMethod y_K_pass ∈ xT := xT_at 839 (by decide +kernel) (by decide +kernel)
theorem wd_840 : Cond.selects "CapKernel" y_K_pass y_K_pass ∈ xT := xT_at 840 (by decide +kernel) (by decide +kernel)
abbrev w_W_pass : List Cond := Cond.codeWith y_W_pass method_15_code 3 (some .int) (wHh 8 ph_W_pass) :: xT
theorem wg_W_pass (z : xzs) (l : Launch) (hl : l.stackTraces = false) : wGood z l y_W_pass w_W_pass (11 + 1) (8 + (2 + 11) + 441) (f_K_pass z) [] := fun x o h r r' fs h1 h2 h3 => wrap (n := 0) (cF := 11) (cL := 441) (maxL := 2) (by decide +kernel) rfl ck_W_pass (ct_K_pass z l hl) rfl np_K_pass rfl wd_841 wd_55 wd_838 wd_839 wd_840 wcl rfl (Nat.le_of_ble_eq_true rfl) (wt_W_pass x o) h1 h2 h3
theorem wd_837 : Cond.codeWith y_W_pass method_15_code 3 (some .int) (wHh 8 ph_W_pass) ∈ xT := xT_at 837 (by decide +kernel) (by decide +kernel)
def y_W_priority : MethodName := ⟨"CapKernelLaw", "priority", "(LCapKernel;II[J)I"⟩
def tb_W_priority : List (Nat × xI) := [(0, .aload_n 3), (1, .iconst 0), (2, .aload_n 0), (3, .iload_n 1), (4, .iload_n 2), (5, .invokevirtual 61), (8, .i2l), (9, .lastore), (10, .goto 19), (13, .astore 4), (15, .iconst 1), (16, .ireturn), (17, .astore 4), (19, .iconst 2), (20, .ireturn), (21, .astore 4), (23, .iconst 3), (24, .ireturn), (25, .astore 4), (27, .iconst 4), (28, .ireturn), (29, .iconst 0), (30, .ireturn)]
theorem ck_W_priority : xchk method_16_code 5 tb_W_priority = true := by decide +kernel
def ph_W_priority : Nat → Nat
  | 0 => 13
  | 1 => 17
  | 2 => 21
  | _ => 25
theorem wt_W_priority (x o : Nat) (p0 p1 : Int32) : wTab tb_W_priority 61 x o [.int p0, .int p1] (xargs 0 (.ref x :: ([.int p0, .int p1] ++ [.ref o]))) 10 ph_W_priority := by
  refine ⟨5, 5, [(0, .ref x), (1, .int p0), (2, .int p1), (3, .ref o)], rfl, by decide, rfl, rfl, rfl, ⟨2, 30, [(0, .ref x), (1, .int p0), (2, .int p1), (3, .ref o)], rfl, rfl⟩, fun i hi a => ?_⟩
  rcases (by omega : i = 0 ∨ i = 1 ∨ i = 2 ∨ i = 3) with rfl | rfl | rfl | rfl
  · exact ⟨2, 16, _, rfl, rfl⟩
  · exact ⟨2, 20, _, rfl, rfl⟩
  · exact ⟨2, 24, _, rfl, rfl⟩
  · exact ⟨2, 28, _, rfl, rfl⟩
theorem wd_846 : Cond.methodLink "CapKernelLaw" 61 y_K_priority ∈ xT := xT_at 846 (by decide +kernel) (by decide +kernel)
theorem wd_847 : Cond.instanceMethod y_K_priority ∈ xT := xT_at 847 (by decide +kernel) (by decide +kernel)
theorem wd_848 : Cond.selects "CapKernel" y_K_priority y_K_priority ∈ xT := xT_at 848 (by decide +kernel) (by decide +kernel)
abbrev w_W_priority : List Cond := Cond.codeWith y_W_priority method_16_code 5 (some .int) (wHh 10 ph_W_priority) :: xT
theorem wg_W_priority (z : xzs) (l : Launch) (hl : l.stackTraces = false) (p0 p1 : Int32) : wGood z l y_W_priority w_W_priority (11 + 1) (8 + (5 + 11) + 440) (f_K_priority z) [.int p0, .int p1] := fun x o h r r' fs h1 h2 h3 => wrap (n := 2) (cF := 11) (cL := 440) (maxL := 5) (by decide +kernel) rfl ck_W_priority (ct_K_priority z l hl) rfl np_K_priority rfl wd_849 wd_55 wd_846 wd_847 wd_848 wcl rfl (Nat.le_of_ble_eq_true rfl) (wt_W_priority x o p0 p1) h1 h2 h3
theorem wd_845 : Cond.codeWith y_W_priority method_16_code 5 (some .int) (wHh 10 ph_W_priority) ∈ xT := xT_at 845 (by decide +kernel) (by decide +kernel)
def y_W_thread : MethodName := ⟨"CapKernelLaw", "thread", "(LCapKernel;II[J)I"⟩
def tb_W_thread : List (Nat × xI) := [(0, .aload_n 3), (1, .iconst 0), (2, .aload_n 0), (3, .iload_n 1), (4, .iload_n 2), (5, .invokevirtual 64), (8, .i2l), (9, .lastore), (10, .goto 19), (13, .astore 4), (15, .iconst 1), (16, .ireturn), (17, .astore 4), (19, .iconst 2), (20, .ireturn), (21, .astore 4), (23, .iconst 3), (24, .ireturn), (25, .astore 4), (27, .iconst 4), (28, .ireturn), (29, .iconst 0), (30, .ireturn)]
theorem ck_W_thread : xchk method_17_code 5 tb_W_thread = true := by decide +kernel
def ph_W_thread : Nat → Nat
  | 0 => 13
  | 1 => 17
  | 2 => 21
  | _ => 25
theorem wt_W_thread (x o : Nat) (p0 p1 : Int32) : wTab tb_W_thread 64 x o [.int p0, .int p1] (xargs 0 (.ref x :: ([.int p0, .int p1] ++ [.ref o]))) 10 ph_W_thread := by
  refine ⟨5, 5, [(0, .ref x), (1, .int p0), (2, .int p1), (3, .ref o)], rfl, by decide, rfl, rfl, rfl, ⟨2, 30, [(0, .ref x), (1, .int p0), (2, .int p1), (3, .ref o)], rfl, rfl⟩, fun i hi a => ?_⟩
  rcases (by omega : i = 0 ∨ i = 1 ∨ i = 2 ∨ i = 3) with rfl | rfl | rfl | rfl
  · exact ⟨2, 16, _, rfl, rfl⟩
  · exact ⟨2, 20, _, rfl, rfl⟩
  · exact ⟨2, 24, _, rfl, rfl⟩
  · exact ⟨2, 28, _, rfl, rfl⟩
theorem wd_856 : Cond.methodLink "CapKernelLaw" 64 y_K_thread ∈ xT := xT_at 856 (by decide +kernel) (by decide +kernel)
theorem wd_857 : Cond.instanceMethod y_K_thread ∈ xT := xT_at 857 (by decide +kernel) (by decide +kernel)
theorem wd_858 : Cond.selects "CapKernel" y_K_thread y_K_thread ∈ xT := xT_at 858 (by decide +kernel) (by decide +kernel)
abbrev w_W_thread : List Cond := Cond.codeWith y_W_thread method_17_code 5 (some .int) (wHh 10 ph_W_thread) :: xT
theorem wg_W_thread (z : xzs) (l : Launch) (hl : l.stackTraces = false) (p0 p1 : Int32) : wGood z l y_W_thread w_W_thread (11 + 1) (8 + (4 + 11) + 440) (f_K_thread z) [.int p0, .int p1] := fun x o h r r' fs h1 h2 h3 => wrap (n := 2) (cF := 11) (cL := 440) (maxL := 4) (by decide +kernel) rfl ck_W_thread (ct_K_thread z l hl) rfl np_K_thread rfl wd_859 wd_55 wd_856 wd_857 wd_858 wcl rfl (Nat.le_of_ble_eq_true rfl) (wt_W_thread x o p0 p1) h1 h2 h3
theorem wd_855 : Cond.codeWith y_W_thread method_17_code 5 (some .int) (wHh 10 ph_W_thread) ∈ xT := xT_at 855 (by decide +kernel) (by decide +kernel)
def y_W_look : MethodName := ⟨"CapKernelLaw", "look", "(LCapKernel;III[J)I"⟩
def tb_W_look : List (Nat × xI) := [(0, .aload 4), (2, .iconst 0), (3, .aload_n 0), (4, .iload_n 1), (5, .iload_n 2), (6, .iload_n 3), (7, .invokevirtual 67), (10, .i2l), (11, .lastore), (12, .goto 19), (15, .astore 5), (17, .iconst 1), (18, .ireturn), (19, .astore 5), (21, .iconst 2), (22, .ireturn), (23, .astore 5), (25, .iconst 3), (26, .ireturn), (27, .astore 5), (29, .iconst 4), (30, .ireturn), (31, .iconst 0), (32, .ireturn)]
theorem ck_W_look : xchk method_18_code 6 tb_W_look = true := by decide +kernel
def ph_W_look : Nat → Nat
  | 0 => 15
  | 1 => 19
  | 2 => 23
  | _ => 27
theorem wt_W_look (x o : Nat) (p0 p1 p2 : Int32) : wTab tb_W_look 67 x o [.int p0, .int p1, .int p2] (xargs 0 (.ref x :: ([.int p0, .int p1, .int p2] ++ [.ref o]))) 12 ph_W_look := by
  refine ⟨6, 7, [(0, .ref x), (1, .int p0), (2, .int p1), (3, .int p2), (4, .ref o)], rfl, by decide, rfl, rfl, rfl, ⟨2, 32, [(0, .ref x), (1, .int p0), (2, .int p1), (3, .int p2), (4, .ref o)], rfl, rfl⟩, fun i hi a => ?_⟩
  rcases (by omega : i = 0 ∨ i = 1 ∨ i = 2 ∨ i = 3) with rfl | rfl | rfl | rfl
  · exact ⟨2, 18, _, rfl, rfl⟩
  · exact ⟨2, 22, _, rfl, rfl⟩
  · exact ⟨2, 26, _, rfl, rfl⟩
  · exact ⟨2, 30, _, rfl, rfl⟩
theorem wd_863 : Cond.methodLink "CapKernelLaw" 67 y_K_look ∈ xT := xT_at 863 (by decide +kernel) (by decide +kernel)
theorem wd_864 : Cond.instanceMethod y_K_look ∈ xT := xT_at 864 (by decide +kernel) (by decide +kernel)
theorem wd_865 : Cond.selects "CapKernel" y_K_look y_K_look ∈ xT := xT_at 865 (by decide +kernel) (by decide +kernel)
abbrev w_W_look : List Cond := Cond.codeWith y_W_look method_18_code 6 (some .int) (wHh 12 ph_W_look) :: xT
theorem wg_W_look (z : xzs) (l : Launch) (hl : l.stackTraces = false) (p0 p1 p2 : Int32) : wGood z l y_W_look w_W_look (12 + 1) (8 + (5 + 11) + 464) (f_K_look z) [.int p0, .int p1, .int p2] := fun x o h r r' fs h1 h2 h3 => wrap (n := 3) (cF := 12) (cL := 464) (maxL := 5) (by decide +kernel) rfl ck_W_look (ct_K_look z l hl) rfl np_K_look rfl wd_866 wd_55 wd_863 wd_864 wd_865 wcl rfl (Nat.le_of_ble_eq_true rfl) (wt_W_look x o p0 p1 p2) h1 h2 h3
theorem wd_862 : Cond.codeWith y_W_look method_18_code 6 (some .int) (wHh 12 ph_W_look) ∈ xT := xT_at 862 (by decide +kernel) (by decide +kernel)
def tb_W_law0 : List (Nat × xI) := [(0, .new 8), (3, .dup), (4, .invokespecial 70), (7, .astore_n 1), (8, .new 71), (11, .dup), (12, .invokespecial 73), (15, .astore_n 2), (16, .iconst 1), (17, .newarray .long), (19, .astore_n 3), (20, .iconst 0), (21, .istore 4), (23, .iload 4), (25, .aload_n 0), (26, .arraylength), (27, .iconst 5), (28, .isub), (29, .if_icmp .gt 1215), (32, .aload_n 0), (33, .iload 4), (35, .iaload), (36, .bipush 31), (38, .iand), (39, .tableswitch 1199 0 17 #[85, 165, 257, 325, 381, 437, 517, 597, 665, 733, 789, 845, 901, 945, 1013, 1026, 1094, 1174]), (124, .aload_n 1), (125, .aload_n 0), (126, .iload 4), (128, .iconst 1), (129, .iadd), (130, .iaload), (131, .aload_n 0), (132, .iload 4), (134, .iconst 2), (135, .iadd), (136, .iaload), (137, .aload_n 0), (138, .iload 4), (140, .iconst 3), (141, .iadd), (142, .iaload), (143, .aload_n 3), (144, .invokestatic 74), (147, .istore 5), (149, .aload_n 2), (150, .aload_n 0), (151, .iload 4), (153, .iconst 1), (154, .iadd), (155, .iaload)]
theorem ck_W_law0 : xchk code 7 tb_W_law0 = true := by decide +kernel
def tb_W_law1 : List (Nat × xI) := [(156, .aload_n 0), (157, .iload 4), (159, .iconst 2), (160, .iadd), (161, .iaload), (162, .aload_n 0), (163, .iload 4), (165, .iconst 3), (166, .iadd), (167, .iaload), (168, .invokevirtual 79), (171, .istore 6), (173, .aload_n 2), (174, .invokevirtual 80), (177, .iload 5), (179, .if_icmp .eq 5), (182, .iconst 0), (183, .ireturn), (184, .iload 5), (186, .ifCond .ne 15), (189, .aload_n 3), (190, .iconst 0), (191, .laload), (192, .iload 6), (194, .i2l), (195, .lcmp), (196, .ifCond .eq 5), (199, .iconst 0), (200, .ireturn), (201, .goto 1037), (204, .aload_n 1), (205, .aload_n 0), (206, .iload 4), (208, .iconst 1), (209, .iadd), (210, .iaload), (211, .aload_n 0), (212, .iload 4), (214, .iconst 2), (215, .iadd), (216, .iaload), (217, .aload_n 0), (218, .iload 4), (220, .iconst 3), (221, .iadd), (222, .iaload), (223, .aload_n 0), (224, .iload 4), (226, .iconst 4), (227, .iadd)]
theorem ck_W_law1 : xchk code 7 tb_W_law1 = true := by decide +kernel
def tb_W_law2 : List (Nat × xI) := [(228, .iaload), (229, .aload_n 3), (230, .invokestatic 83), (233, .istore 5), (235, .aload_n 2), (236, .aload_n 0), (237, .iload 4), (239, .iconst 1), (240, .iadd), (241, .iaload), (242, .aload_n 0), (243, .iload 4), (245, .iconst 2), (246, .iadd), (247, .iaload), (248, .aload_n 0), (249, .iload 4), (251, .iconst 3), (252, .iadd), (253, .iaload), (254, .aload_n 0), (255, .iload 4), (257, .iconst 4), (258, .iadd), (259, .iaload), (260, .invokevirtual 86), (263, .istore 6), (265, .aload_n 2), (266, .invokevirtual 80), (269, .iload 5), (271, .if_icmp .eq 5), (274, .iconst 0), (275, .ireturn), (276, .iload 5), (278, .ifCond .ne 15), (281, .aload_n 3), (282, .iconst 0), (283, .laload), (284, .iload 6), (286, .i2l), (287, .lcmp), (288, .ifCond .eq 5), (291, .iconst 0), (292, .ireturn), (293, .goto 945), (296, .aload_n 1), (297, .aload_n 0), (298, .iload 4), (300, .iconst 1), (301, .iadd)]
theorem ck_W_law2 : xchk code 7 tb_W_law2 = true := by decide +kernel
def tb_W_law3 : List (Nat × xI) := [(302, .iaload), (303, .aload_n 0), (304, .iload 4), (306, .iconst 2), (307, .iadd), (308, .iaload), (309, .aload_n 3), (310, .invokestatic 87), (313, .istore 5), (315, .aload_n 2), (316, .aload_n 0), (317, .iload 4), (319, .iconst 1), (320, .iadd), (321, .iaload), (322, .aload_n 0), (323, .iload 4), (325, .iconst 2), (326, .iadd), (327, .iaload), (328, .invokevirtual 90), (331, .istore 6), (333, .aload_n 2), (334, .invokevirtual 80), (337, .iload 5), (339, .if_icmp .eq 5), (342, .iconst 0), (343, .ireturn), (344, .iload 5), (346, .ifCond .ne 15), (349, .aload_n 3), (350, .iconst 0), (351, .laload), (352, .iload 6), (354, .i2l), (355, .lcmp), (356, .ifCond .eq 5), (359, .iconst 0), (360, .ireturn), (361, .goto 877), (364, .aload_n 1), (365, .aload_n 0), (366, .iload 4), (368, .iconst 1), (369, .iadd), (370, .iaload), (371, .aload_n 3), (372, .invokestatic 91), (375, .istore 5), (377, .aload_n 2)]
theorem ck_W_law3 : xchk code 7 tb_W_law3 = true := by decide +kernel
def tb_W_law4 : List (Nat × xI) := [(378, .aload_n 0), (379, .iload 4), (381, .iconst 1), (382, .iadd), (383, .iaload), (384, .invokevirtual 94), (387, .istore 6), (389, .aload_n 2), (390, .invokevirtual 80), (393, .iload 5), (395, .if_icmp .eq 5), (398, .iconst 0), (399, .ireturn), (400, .iload 5), (402, .ifCond .ne 15), (405, .aload_n 3), (406, .iconst 0), (407, .laload), (408, .iload 6), (410, .i2l), (411, .lcmp), (412, .ifCond .eq 5), (415, .iconst 0), (416, .ireturn), (417, .goto 821), (420, .aload_n 1), (421, .aload_n 0), (422, .iload 4), (424, .iconst 1), (425, .iadd), (426, .iaload), (427, .aload_n 3), (428, .invokestatic 95), (431, .istore 5), (433, .aload_n 2), (434, .aload_n 0), (435, .iload 4), (437, .iconst 1), (438, .iadd), (439, .iaload), (440, .invokevirtual 97), (443, .istore 6), (445, .aload_n 2), (446, .invokevirtual 80), (449, .iload 5), (451, .if_icmp .eq 5), (454, .iconst 0), (455, .ireturn), (456, .iload 5), (458, .ifCond .ne 15)]
theorem ck_W_law4 : xchk code 7 tb_W_law4 = true := by decide +kernel
def tb_W_law5 : List (Nat × xI) := [(461, .aload_n 3), (462, .iconst 0), (463, .laload), (464, .iload 6), (466, .i2l), (467, .lcmp), (468, .ifCond .eq 5), (471, .iconst 0), (472, .ireturn), (473, .goto 765), (476, .aload_n 1), (477, .aload_n 0), (478, .iload 4), (480, .iconst 1), (481, .iadd), (482, .iaload), (483, .aload_n 0), (484, .iload 4), (486, .iconst 2), (487, .iadd), (488, .iaload), (489, .aload_n 0), (490, .iload 4), (492, .iconst 3), (493, .iadd), (494, .iaload), (495, .aload_n 3), (496, .invokestatic 98), (499, .istore 5), (501, .aload_n 2), (502, .aload_n 0), (503, .iload 4), (505, .iconst 1), (506, .iadd), (507, .iaload), (508, .aload_n 0), (509, .iload 4), (511, .iconst 2), (512, .iadd), (513, .iaload), (514, .aload_n 0), (515, .iload 4), (517, .iconst 3), (518, .iadd), (519, .iaload), (520, .invokevirtual 100), (523, .istore 6), (525, .aload_n 2), (526, .invokevirtual 80), (529, .iload 5)]
theorem ck_W_law5 : xchk code 7 tb_W_law5 = true := by decide +kernel
def tb_W_law6 : List (Nat × xI) := [(531, .if_icmp .eq 5), (534, .iconst 0), (535, .ireturn), (536, .iload 5), (538, .ifCond .ne 15), (541, .aload_n 3), (542, .iconst 0), (543, .laload), (544, .iload 6), (546, .i2l), (547, .lcmp), (548, .ifCond .eq 5), (551, .iconst 0), (552, .ireturn), (553, .goto 685), (556, .aload_n 1), (557, .aload_n 0), (558, .iload 4), (560, .iconst 1), (561, .iadd), (562, .iaload), (563, .aload_n 0), (564, .iload 4), (566, .iconst 2), (567, .iadd), (568, .iaload), (569, .aload_n 0), (570, .iload 4), (572, .iconst 3), (573, .iadd), (574, .iaload), (575, .aload_n 3), (576, .invokestatic 101), (579, .istore 5), (581, .aload_n 2), (582, .aload_n 0), (583, .iload 4), (585, .iconst 1), (586, .iadd), (587, .iaload), (588, .aload_n 0), (589, .iload 4), (591, .iconst 2), (592, .iadd), (593, .iaload), (594, .aload_n 0), (595, .iload 4), (597, .iconst 3), (598, .iadd), (599, .iaload)]
theorem ck_W_law6 : xchk code 7 tb_W_law6 = true := by decide +kernel
def tb_W_law7 : List (Nat × xI) := [(600, .invokevirtual 103), (603, .istore 6), (605, .aload_n 2), (606, .invokevirtual 80), (609, .iload 5), (611, .if_icmp .eq 5), (614, .iconst 0), (615, .ireturn), (616, .iload 5), (618, .ifCond .ne 15), (621, .aload_n 3), (622, .iconst 0), (623, .laload), (624, .iload 6), (626, .i2l), (627, .lcmp), (628, .ifCond .eq 5), (631, .iconst 0), (632, .ireturn), (633, .goto 605), (636, .aload_n 1), (637, .aload_n 0), (638, .iload 4), (640, .iconst 1), (641, .iadd), (642, .iaload), (643, .aload_n 0), (644, .iload 4), (646, .iconst 2), (647, .iadd), (648, .iaload), (649, .aload_n 3), (650, .invokestatic 104), (653, .istore 5), (655, .aload_n 2), (656, .aload_n 0), (657, .iload 4), (659, .iconst 1), (660, .iadd), (661, .iaload), (662, .aload_n 0), (663, .iload 4), (665, .iconst 2), (666, .iadd), (667, .iaload), (668, .invokevirtual 106), (671, .istore 6), (673, .aload_n 2), (674, .invokevirtual 80), (677, .iload 5)]
theorem ck_W_law7 : xchk code 7 tb_W_law7 = true := by decide +kernel
def tb_W_law8 : List (Nat × xI) := [(679, .if_icmp .eq 5), (682, .iconst 0), (683, .ireturn), (684, .iload 5), (686, .ifCond .ne 15), (689, .aload_n 3), (690, .iconst 0), (691, .laload), (692, .iload 6), (694, .i2l), (695, .lcmp), (696, .ifCond .eq 5), (699, .iconst 0), (700, .ireturn), (701, .goto 537), (704, .aload_n 1), (705, .aload_n 0), (706, .iload 4), (708, .iconst 1), (709, .iadd), (710, .iaload), (711, .aload_n 0), (712, .iload 4), (714, .iconst 2), (715, .iadd), (716, .iaload), (717, .aload_n 3), (718, .invokestatic 107), (721, .istore 5), (723, .aload_n 2), (724, .aload_n 0), (725, .iload 4), (727, .iconst 1), (728, .iadd), (729, .iaload), (730, .aload_n 0), (731, .iload 4), (733, .iconst 2), (734, .iadd), (735, .iaload), (736, .invokevirtual 109), (739, .istore 6), (741, .aload_n 2), (742, .invokevirtual 80), (745, .iload 5), (747, .if_icmp .eq 5), (750, .iconst 0), (751, .ireturn), (752, .iload 5), (754, .ifCond .ne 15)]
theorem ck_W_law8 : xchk code 7 tb_W_law8 = true := by decide +kernel
def tb_W_law9 : List (Nat × xI) := [(757, .aload_n 3), (758, .iconst 0), (759, .laload), (760, .iload 6), (762, .i2l), (763, .lcmp), (764, .ifCond .eq 5), (767, .iconst 0), (768, .ireturn), (769, .goto 469), (772, .aload_n 1), (773, .aload_n 0), (774, .iload 4), (776, .iconst 1), (777, .iadd), (778, .iaload), (779, .aload_n 3), (780, .invokestatic 110), (783, .istore 5), (785, .aload_n 2), (786, .aload_n 0), (787, .iload 4), (789, .iconst 1), (790, .iadd), (791, .iaload), (792, .invokevirtual 112), (795, .istore 6), (797, .aload_n 2), (798, .invokevirtual 80), (801, .iload 5), (803, .if_icmp .eq 5), (806, .iconst 0), (807, .ireturn), (808, .iload 5), (810, .ifCond .ne 15), (813, .aload_n 3), (814, .iconst 0), (815, .laload), (816, .iload 6), (818, .i2l), (819, .lcmp), (820, .ifCond .eq 5), (823, .iconst 0), (824, .ireturn), (825, .goto 413), (828, .aload_n 1), (829, .aload_n 0), (830, .iload 4), (832, .iconst 1), (833, .iadd)]
theorem ck_W_law9 : xchk code 7 tb_W_law9 = true := by decide +kernel
def tb_W_law10 : List (Nat × xI) := [(834, .iaload), (835, .aload_n 3), (836, .invokestatic 113), (839, .istore 5), (841, .aload_n 2), (842, .aload_n 0), (843, .iload 4), (845, .iconst 1), (846, .iadd), (847, .iaload), (848, .invokevirtual 115), (851, .istore 6), (853, .aload_n 2), (854, .invokevirtual 80), (857, .iload 5), (859, .if_icmp .eq 5), (862, .iconst 0), (863, .ireturn), (864, .iload 5), (866, .ifCond .ne 15), (869, .aload_n 3), (870, .iconst 0), (871, .laload), (872, .iload 6), (874, .i2l), (875, .lcmp), (876, .ifCond .eq 5), (879, .iconst 0), (880, .ireturn), (881, .goto 357), (884, .aload_n 1), (885, .aload_n 0), (886, .iload 4), (888, .iconst 1), (889, .iadd), (890, .iaload), (891, .aload_n 3), (892, .invokestatic 116), (895, .istore 5), (897, .aload_n 2), (898, .aload_n 0), (899, .iload 4), (901, .iconst 1), (902, .iadd), (903, .iaload), (904, .invokevirtual 118), (907, .istore 6), (909, .aload_n 2), (910, .invokevirtual 80), (913, .iload 5)]
theorem ck_W_law10 : xchk code 7 tb_W_law10 = true := by decide +kernel
def tb_W_law11 : List (Nat × xI) := [(915, .if_icmp .eq 5), (918, .iconst 0), (919, .ireturn), (920, .iload 5), (922, .ifCond .ne 15), (925, .aload_n 3), (926, .iconst 0), (927, .laload), (928, .iload 6), (930, .i2l), (931, .lcmp), (932, .ifCond .eq 5), (935, .iconst 0), (936, .ireturn), (937, .goto 301), (940, .aload_n 1), (941, .aload_n 3), (942, .invokestatic 119), (945, .istore 5), (947, .aload_n 2), (948, .invokevirtual 122), (951, .istore 6), (953, .aload_n 2), (954, .invokevirtual 80), (957, .iload 5), (959, .if_icmp .eq 5), (962, .iconst 0), (963, .ireturn), (964, .iload 5), (966, .ifCond .ne 15), (969, .aload_n 3), (970, .iconst 0), (971, .laload), (972, .iload 6), (974, .i2l), (975, .lcmp), (976, .ifCond .eq 5), (979, .iconst 0), (980, .ireturn), (981, .goto 257), (984, .aload_n 1), (985, .aload_n 0), (986, .iload 4), (988, .iconst 1), (989, .iadd), (990, .iaload), (991, .aload_n 0), (992, .iload 4), (994, .iconst 2), (995, .iadd)]
theorem ck_W_law11 : xchk code 7 tb_W_law11 = true := by decide +kernel
def tb_W_law12 : List (Nat × xI) := [(996, .iaload), (997, .aload_n 3), (998, .invokestatic 123), (1001, .istore 5), (1003, .aload_n 2), (1004, .aload_n 0), (1005, .iload 4), (1007, .iconst 1), (1008, .iadd), (1009, .iaload), (1010, .aload_n 0), (1011, .iload 4), (1013, .iconst 2), (1014, .iadd), (1015, .iaload), (1016, .invokevirtual 125), (1019, .istore 6), (1021, .aload_n 2), (1022, .invokevirtual 80), (1025, .iload 5), (1027, .if_icmp .eq 5), (1030, .iconst 0), (1031, .ireturn), (1032, .iload 5), (1034, .ifCond .ne 15), (1037, .aload_n 3), (1038, .iconst 0), (1039, .laload), (1040, .iload 6), (1042, .i2l), (1043, .lcmp), (1044, .ifCond .eq 5), (1047, .iconst 0), (1048, .ireturn), (1049, .goto 189), (1052, .aload_n 1), (1053, .invokevirtual 126), (1056, .aload_n 2), (1057, .invokevirtual 129), (1060, .if_icmp .eq 178), (1063, .iconst 0), (1064, .ireturn), (1065, .aload_n 1), (1066, .aload_n 0), (1067, .iload 4), (1069, .iconst 1), (1070, .iadd), (1071, .iaload), (1072, .aload_n 0), (1073, .iload 4)]
theorem ck_W_law12 : xchk code 7 tb_W_law12 = true := by decide +kernel
def tb_W_law13 : List (Nat × xI) := [(1075, .iconst 2), (1076, .iadd), (1077, .iaload), (1078, .aload_n 3), (1079, .invokestatic 130), (1082, .istore 5), (1084, .aload_n 2), (1085, .aload_n 0), (1086, .iload 4), (1088, .iconst 1), (1089, .iadd), (1090, .iaload), (1091, .aload_n 0), (1092, .iload 4), (1094, .iconst 2), (1095, .iadd), (1096, .iaload), (1097, .invokevirtual 132), (1100, .istore 6), (1102, .aload_n 2), (1103, .invokevirtual 80), (1106, .iload 5), (1108, .if_icmp .eq 5), (1111, .iconst 0), (1112, .ireturn), (1113, .iload 5), (1115, .ifCond .ne 15), (1118, .aload_n 3), (1119, .iconst 0), (1120, .laload), (1121, .iload 6), (1123, .i2l), (1124, .lcmp), (1125, .ifCond .eq 5), (1128, .iconst 0), (1129, .ireturn), (1130, .goto 108), (1133, .aload_n 1), (1134, .aload_n 0), (1135, .iload 4), (1137, .iconst 1), (1138, .iadd), (1139, .iaload), (1140, .aload_n 0), (1141, .iload 4), (1143, .iconst 2), (1144, .iadd), (1145, .iaload), (1146, .aload_n 0), (1147, .iload 4)]
theorem ck_W_law13 : xchk code 7 tb_W_law13 = true := by decide +kernel
def tb_W_law14 : List (Nat × xI) := [(1149, .iconst 3), (1150, .iadd), (1151, .iaload), (1152, .aload_n 3), (1153, .invokestatic 133), (1156, .istore 5), (1158, .aload_n 2), (1159, .aload_n 0), (1160, .iload 4), (1162, .iconst 1), (1163, .iadd), (1164, .iaload), (1165, .aload_n 0), (1166, .iload 4), (1168, .iconst 2), (1169, .iadd), (1170, .iaload), (1171, .aload_n 0), (1172, .iload 4), (1174, .iconst 3), (1175, .iadd), (1176, .iaload), (1177, .invokevirtual 135), (1180, .istore 6), (1182, .aload_n 2), (1183, .invokevirtual 80), (1186, .iload 5), (1188, .if_icmp .eq 5), (1191, .iconst 0), (1192, .ireturn), (1193, .iload 5), (1195, .ifCond .ne 15), (1198, .aload_n 3), (1199, .iconst 0), (1200, .laload), (1201, .iload 6), (1203, .i2l), (1204, .lcmp), (1205, .ifCond .eq 5), (1208, .iconst 0), (1209, .ireturn), (1210, .goto 28), (1213, .aload_n 1), (1214, .aload_n 0), (1215, .iload 4), (1217, .iconst 1), (1218, .iadd), (1219, .iaload), (1220, .invokevirtual 136), (1223, .aload_n 2)]
theorem ck_W_law14 : xchk code 7 tb_W_law14 = true := by decide +kernel
def tb_W_law15 : List (Nat × xI) := [(1224, .aload_n 0), (1225, .iload 4), (1227, .iconst 1), (1228, .iadd), (1229, .iaload), (1230, .invokevirtual 139), (1233, .if_icmp .eq 5), (1236, .iconst 0), (1237, .ireturn), (1238, .iinc 4 5), (1241, .goto (-1218)), (1244, .iconst 1), (1245, .ireturn)]
theorem ck_W_law15 : xchk code 7 tb_W_law15 = true := by decide +kernel
def tb_W_law : List (Nat × xI) := tb_W_law0 ++ (tb_W_law1 ++ (tb_W_law2 ++ (tb_W_law3 ++ (tb_W_law4 ++ (tb_W_law5 ++ (tb_W_law6 ++ (tb_W_law7 ++ (tb_W_law8 ++ (tb_W_law9 ++ (tb_W_law10 ++ (tb_W_law11 ++ (tb_W_law12 ++ (tb_W_law13 ++ (tb_W_law14 ++ (tb_W_law15)))))))))))))))
theorem xchk_app {cc : ByteArray} {nL : Nat} {a b : List (Nat × xI)} (h1 : xchk cc nL a = true) (h2 : xchk cc nL b = true) : xchk cc nL (a ++ b) = true := by
  unfold xchk at h1 h2 ⊢
  rw [List.all_append, h1, h2]
  rfl
theorem ck_W_law : xchk code 7 tb_W_law = true := xchk_app ck_W_law0 (xchk_app ck_W_law1 (xchk_app ck_W_law2 (xchk_app ck_W_law3 (xchk_app ck_W_law4 (xchk_app ck_W_law5 (xchk_app ck_W_law6 (xchk_app ck_W_law7 (xchk_app ck_W_law8 (xchk_app ck_W_law9 (xchk_app ck_W_law10 (xchk_app ck_W_law11 (xchk_app ck_W_law12 (xchk_app ck_W_law13 (xchk_app ck_W_law14 ck_W_law15))))))))))))))
