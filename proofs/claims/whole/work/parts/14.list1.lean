/-! LISTS: runs of the machine with steps of their own. -/
abbrev xSp : Type := Nat → Option (xX → Option xX)
def xoS (K : xK) (T : xSp) (x : xX) : xS := match (T x.1).bind (fun g => g x) with
  | some x' => some (.inl x')
  | none => xstep K x
def xrS (K : xK) (T : xSp) : Nat → xX → xR → Prop
  | 0, _, _ => False
  | n + 1, x, r => (∃ x', xoS K T x = some (.inl x') ∧ xrS K T n x' r) ∨ xoS K T x = some (.inr r)
def xrE (K : xK) (T : xSp) (x : xX) (r : xR) : Prop := ∃ n, xrS K T n x r
theorem rs_s {K : xK} {T : xSp} {x x' : xX} {r : xR} (h : xoS K T x = some (.inl x')) (k : xrE K T x' r) : xrE K T x r := by
  obtain ⟨n, k⟩ := k
  exact ⟨n + 1, Or.inl ⟨x', h, k⟩⟩
theorem rs_e {K : xK} {T : xSp} {x : xX} {r : xR} (h : xoS K T x = some (.inr r)) : xrE K T x r := ⟨1, Or.inr h⟩
theorem xoS_sp {K : xK} {T : xSp} {x x' : xX} {g : xX → Option xX} (h : T x.1 = some g) (hg : g x = some x') : xoS K T x = some (.inl x') := by
  unfold xoS
  rw [h, Option.bind_some, hg]
theorem xoS_am {K : xK} {T : xSp} {x : xX} (h : (T x.1).bind (fun g => g x) = none) : xoS K T x = xstep K x := by
  unfold xoS
  rw [h]
-- the steps
def sp_gets (v : Value) : xX → Option xX := fun x => some (x.1 + 3, x.2.1, v :: x.2.2.1, x.2.2.2)
def sp_ldc (v : Value) : xX → Option xX := fun x => some (x.1 + 2, x.2.1, v :: x.2.2.1, x.2.2.2)
def sp_alen (a : Nat) : xX → Option xX := fun x => (xpopa x.2.2.1).bind fun q => if q.1 = a then some (x.1 + 1, x.2.1, .int 0 :: q.2, x.2.2.2) else none
def sp_get (ci k : Nat) : xX → Option xX := fun x => (xpopa x.2.2.1).bind fun a => (xrd x.2.2.2 a.1 ci k).bind fun v => some (x.1 + 3, x.2.1, v :: a.2, x.2.2.2)
def sp_put (ci k : Nat) : xX → Option xX := fun x => (xpopi x.2.2.1).bind fun v => (xpopa v.2).bind fun a => (xwr x.2.2.2 a.1 ci k (.int v.1)).bind fun h' => some (x.1 + 3, x.2.1, a.2, h')
def sp_getC (mi : Nat) : xX → Option xX := fun x => (xpopa x.2.2.1).bind fun a => (xat x.2.2.2 a.1).bind fun e => (xaq e).bind fun q => if q.1 = 4 ∧ a.2.length ≤ 4 then some (x.1 + 3, x.2.1, .ref mi :: a.2, x.2.2.2) else none
def spQ (h : xH) (a : Nat) (i : Int32) (v : Nat) : Option xH := (xat h a).bind fun e => (xaq e).bind fun q => (xix i q.2.1).bind fun j => (xisO h v 1).bind fun _ => if q.1 = 4 then some (xset h a (xobs (va_up q.2.2 j (some v)) q.2.1)) else none
def sp_aast : xX → Option xX := fun x => (xpopa x.2.2.1).bind fun v => (xpopi v.2).bind fun i => (xpopa i.2).bind fun a => (spQ x.2.2.2 a.1 i.1 v.1).bind fun h' => some (x.1 + 1, x.2.1, a.2, h')
def spC (h : xH) (s : Nat) (sp : Int32) (d : Nat) (dp n : Int32) : Option xH := (xat h s).bind fun es => (xaq es).bind fun qs => (xat h d).bind fun ed => (xaq ed).bind fun qd =>
    if (qs.1 = 4 ∧ qd.1 = 4) ∧ ¬ sp < 0 ∧ ¬ dp < 0 ∧ ¬ n < 0 ∧ sp.toNatClampNeg + n.toNatClampNeg ≤ qs.2.1 ∧ dp.toNatClampNeg + n.toNatClampNeg ≤ qd.2.1 ∧ xcaps h (sp.toNatClampNeg + n.toNatClampNeg) qs.2.2 = true then
      some (xset h d (xobs (va_cpy qs.2.2 qd.2.2 sp.toNatClampNeg dp.toNatClampNeg n.toNatClampNeg) qd.2.1)) else none
def sp_copy : xX → Option xX := fun x => (xpopi x.2.2.1).bind fun n => (xpopi n.2).bind fun dp => (xpopa dp.2).bind fun d => (xpopi d.2).bind fun sp => (xpopa sp.2).bind fun s => (spC x.2.2.2 s.1 sp.1 d.1 dp.1 n.1).bind fun h' => if s.2.length ≤ 4 then some (x.1 + 3, x.2.1, s.2, h') else none
def sp_max : xX → Option xX := fun x => (xpopi x.2.2.1).bind fun y => (xpopi y.2).bind fun q => if q.2.length ≤ 4 then some (x.1 + 3, x.2.1, .int (if q.1 < y.1 then y.1 else q.1) :: q.2, x.2.2.2) else none
def sp_min : xX → Option xX := fun x => (xpopi x.2.2.1).bind fun y => (xpopi y.2).bind fun q => if q.2.length ≤ 4 then some (x.1 + 3, x.2.1, .int (if y.1 < q.1 then y.1 else q.1) :: q.2, x.2.2.2) else none
def tNo : xSp := fun _ => none
-- what the methods do
def f_ac_new : xF := fun as h => match as with
  | [.ref _] => some (.inl none, h)
  | _ => none
def f_al_new : xF := fun as h => match as with
  | [.ref a] => (xwr h a 7 1 (.int 0)).bind fun h' => some (.inl none, h')
  | _ => none
def f_pci : xF := fun as h => match as with
  | [.int i, .int n, .null] => if i < 0 ∨ n ≤ i then none else some (.inl (some (.int i)), h)
  | _ => none
def f_oci : xF := fun as h => match as with
  | [.int i, .int n] => if i < 0 ∨ n ≤ i then none else some (.inl (some (.int i)), h)
  | _ => none
def f_ed : xF := fun as h => match as with
  | [.ref a, .int i] => (rdR h a 7 0).bind fun d => d.bind fun d => (rdQ h d i).bind fun v => some (.inl (some (va_rf v)), h)
  | _ => none
def f_nl : xF := fun as h => match as with
  | [.int a, .int g, .int p] => if 0 < a + (if g < p then p else g) ∧ a + (if g < p then p else g) ≤ 2147483639 then some (.inl (some (.int (a + (if g < p then p else g)))), h) else none
  | _ => none
/-- a longer copy of an array of capabilities -/
def xlong (h : xH) (d : Nat) (n : Int32) : Option xH := (xat h d).bind fun e => (xaq e).bind fun w => if w.1 = 4 ∧ ¬ n < 0 ∧ w.2.1 ≤ n.toNatClampNeg ∧ n.toNatClampNeg ≤ 100000 ∧ xcaps h w.2.1 w.2.2 = true then some (xpush h n.toNatClampNeg (xobs (va_cpy w.2.2 (fun _ => none) 0 0 w.2.1) n.toNatClampNeg)) else none
def f_co3 (z : xzs) : xF := fun as h => match as with
  | [.ref d, .int n, .ref mi] => if mi = z.2.2.2 then (xlong h d n).bind fun h' => some (.inl (some (.ref (xn h))), h') else none
  | _ => none
def f_co2 (z : xzs) : xF := fun as h => match as with
  | [.ref d, .int n] => (xlong h d n).bind fun h' => some (.inl (some (.ref (xn h))), h')
  | _ => none
def f_gr1 (z : xzs) : xF := fun as h => match as with
  | [.ref a, .int mn] => (rdR h a 7 0).bind fun d => d.bind fun d => if d = z.1 then (if mn = 1 then (xwr (xpush h 10 (xobs (fun _ => none) 10)) a 7 0 (.ref (xn h))).bind fun h' => some (.inl (some (.ref (xn h))), h') else none)
      else (xalen h d).bind fun n => if 2 ≤ n ∧ n ≤ 40000 ∧ mn = nI (n + 1) then (xlong h d (nI (n + n / 2))).bind fun h1 => (xwr h1 a 7 0 (.ref (xn h))).bind fun h' => some (.inl (some (.ref (xn h))), h') else none
  | _ => none
def f_gr0 (z : xzs) : xF := fun as h => match as with
  | [.ref a] => (rdI h a 7 2).bind fun s => f_gr1 z [.ref a, .int (s + 1)] h
  | _ => none
/-- element and size are set -/
def xputs (h : xH) (a d e : Nat) (s : Int32) : Option xR := (spQ h d s e).bind fun h1 => (xwr h1 a 7 2 (.int (s + 1))).bind fun h2 => some (.inl none, h2)
def f_add3 (z : xzs) : xF := fun as h => match as with
  | [.ref a, .ref e, .ref d, .int s] => (if d = z.1 then some 0 else xalen h d).bind fun n => if s = Int32.ofNat n then (xisO h a 7).bind fun _ => (f_gr0 z [.ref a] h).bind fun r => (match r.1 with
      | .inl (some (.ref d')) => xputs r.2 a d' e s
      | _ => none) else xputs h a d e s
  | _ => none
def f_fr : xF := fun as h => match as with
  | [.ref a, .ref d, .int i] => (rdI h a 7 1).bind fun m => (xwr h a 7 1 (.int (m + 1))).bind fun h1 => (rdI h1 a 7 2).bind fun s => (if i < s - 1 then spC h1 d (i + 1) d i (s - 1 - i) else some h1).bind fun h2 => (xwr h2 a 7 2 (.int (s - 1))).bind fun h3 => (wrQ h3 d (s - 1) none).bind fun h4 => some (.inl none, h4)
  | _ => none
-- the tables
def fl_AL : List (Nat × (Nat × Nat × FieldType × Nat)) := [(9, (7, 0, .array (.object "java/lang/Object"), 1)), (48, (7, 2, .int, 1))]
def tb_ac_new : List (Nat × xI) := [(0, .aload_n 0), (1, .invokespecial 1), (4, .return_)]
def K_ac_new : xK := (xlook tb_ac_new, fun _ => none, xlook [], xlook [], xlook [], xlook [], xlook [(1, (3, 0, 0, fun _ _ => none))], none)
def tb_al_new : List (Nat × xI) := [(0, .aload_n 0), (1, .invokespecial 1), (4, .aload_n 0), (5, .iconst 0), (6, .putfield 7), (9, .return_)]
def K_al_new : xK := (xlook tb_al_new, fun _ => none, xlook [(7, (7, 1, .int, 1))], xlook [], xlook [], xlook [], xlook [(1, (2, 0, 0, f_ac_new))], none)
def tb_A_new : List (Nat × xI) := [(0, .aload_n 0), (1, .invokespecial 1), (4, .aload_n 0), (8, .putfield 9), (11, .return_)]
def K_A_new : xK := (xlook tb_A_new, fun _ => none, xlook fl_AL, xlook [], xlook [], xlook [], xlook [(1, (2, 0, 0, f_al_new))], none)
def T_A_new (z : xzs) : xSp := xlook [(5, sp_gets (.ref z.1))]
def tb_A_size : List (Nat × xI) := [(0, .aload_n 0), (1, .getfield 48), (4, .ireturn)]
def K_A_size : xK := (xlook tb_A_size, fun _ => none, xlook fl_AL, xlook [], xlook [], xlook [], xlook [], some .int)
def tb_pci : List (Nat × xI) := [(0, .iload_n 0), (1, .ifCond .lt 8), (4, .iload_n 0), (5, .iload_n 1), (6, .if_icmp .lt 10), (16, .iload_n 0), (17, .ireturn)]
def K_pci : xK := (xlook tb_pci, fun _ => none, xlook [], xlook [], xlook [], xlook [], xlook [], some .int)
def tb_oci : List (Nat × xI) := [(0, .iload_n 0), (1, .iload_n 1), (2, .aconst_null), (3, .invokestatic 105), (6, .ireturn)]
def K_oci : xK := (xlook tb_oci, fun _ => none, xlook [], xlook [], xlook [], xlook [], xlook [(105, (0, 3, 0, f_pci))], some .int)
def tb_ed : List (Nat × xI) := [(0, .aload_n 0), (1, .getfield 9), (4, .iload_n 1), (5, .aaload), (6, .areturn)]
def K_ed : xK := (xlook tb_ed, fun _ => none, xlook fl_AL, xlook [], xlook [], xlook [], xlook [], some (.object "java/lang/Object"))
def tb_A_get : List (Nat × xI) := [(0, .iload_n 1), (1, .aload_n 0), (2, .getfield 48), (5, .invokestatic 118), (8, .pop), (9, .aload_n 0), (10, .iload_n 1), (11, .invokevirtual 123), (14, .areturn)]
def K_A_get : xK := (xlook tb_A_get, fun _ => none, xlook fl_AL, xlook [], xlook [], xlook [], xlook [(118, (0, 2, 0, f_oci)), (123, (1, 1, 7, f_ed))], some (.object "java/lang/Object"))
def tb_nl : List (Nat × xI) := [(0, .iload_n 0), (1, .iload_n 1), (2, .iload_n 2), (3, .invokestatic 194), (6, .iadd), (7, .istore_n 3), (8, .iconst 0), (9, .iload_n 3), (10, .if_icmp .ge 11), (13, .iload_n 3), (16, .if_icmp .gt 5), (19, .iload_n 3), (20, .ireturn)]
def K_nl : xK := (xlook tb_nl, fun _ => none, xlook [], xlook [], xlook [], xlook [], xlook [], some .int)
def T_nl : xSp := xlook [(3, sp_max), (14, sp_ldc (.int 2147483639))]
def tb_co3 : List (Nat × xI) := [(0, .aload_n 2), (3, .if_acmp .ne 10), (6, .iload_n 1), (7, .anewarray 2), (10, .goto 14), (24, .astore_n 3), (25, .aload_n 0), (26, .iconst 0), (27, .aload_n 3), (28, .iconst 0), (29, .aload_n 0), (30, .arraylength), (31, .iload_n 1), (32, .invokestatic 304), (38, .aload_n 3), (39, .areturn)]
def K_co3 : xK := (xlook tb_co3, fun _ => none, xlook [], xlook [], xlook [(2, 4)], xlook [], xlook [], some (.array (.object "java/lang/Object")))
def T_co3 (z : xzs) : xSp := xlook [(1, sp_ldc (.ref z.2.2.2)), (32, sp_min), (35, sp_copy)]
def tb_co2 : List (Nat × xI) := [(0, .aload_n 0), (1, .iload_n 1), (2, .aload_n 0), (6, .invokestatic 300), (9, .areturn)]
def K_co2 (z : xzs) : xK := (xlook tb_co2, fun _ => none, xlook [], xlook [], xlook [], xlook [], xlook [(300, (0, 3, 0, f_co3 z))], some (.array (.object "java/lang/Object")))
def T_co2 (z : xzs) : xSp := xlook [(3, sp_getC z.2.2.2)]
def tb_gr1 : List (Nat × xI) := [(0, .aload_n 0), (1, .getfield 9), (4, .arraylength), (5, .istore_n 2), (6, .iload_n 2), (7, .ifCond .gt 13), (10, .aload_n 0), (11, .getfield 9), (17, .if_acmp .eq 28), (20, .iload_n 2), (21, .iload_n 1), (22, .iload_n 2), (23, .isub), (24, .iload_n 2), (25, .iconst 1), (26, .ishr), (27, .invokestatic 73), (30, .istore_n 3), (31, .aload_n 0), (32, .aload_n 0), (33, .getfield 9), (36, .iload_n 3), (37, .invokestatic 66), (40, .dup_x1), (41, .putfield 9), (44, .areturn), (45, .aload_n 0), (46, .bipush 10), (48, .iload_n 1), (49, .invokestatic 79), (52, .anewarray 7), (55, .dup_x1), (56, .putfield 9), (59, .areturn)]
def K_gr1 (z : xzs) : xK := (xlook tb_gr1, fun _ => none, xlook fl_AL, xlook [], xlook [(7, 4)], xlook [], xlook [(73, (0, 3, 0, f_nl)), (66, (0, 2, 0, f_co2 z))], some (.array (.object "java/lang/Object")))
def T_gr1 (z : xzs) : xSp := xlook [(4, sp_alen z.1), (14, sp_gets (.ref z.1)), (49, sp_max)]
def tb_gr0 : List (Nat × xI) := [(0, .aload_n 0), (1, .aload_n 0), (2, .getfield 48), (5, .iconst 1), (6, .iadd), (7, .invokevirtual 69), (10, .areturn)]
def K_gr0 (z : xzs) : xK := (xlook tb_gr0, fun _ => none, xlook fl_AL, xlook [], xlook [], xlook [], xlook [(69, (1, 1, 7, f_gr1 z))], some (.array (.object "java/lang/Object")))
def tb_add3 : List (Nat × xI) := [(0, .iload_n 3), (1, .aload_n 2), (2, .arraylength), (3, .if_icmp .ne 8), (6, .aload_n 0), (7, .invokevirtual 129), (10, .astore_n 2), (11, .aload_n 2), (12, .iload_n 3), (13, .aload_n 1), (15, .aload_n 0), (16, .iload_n 3), (17, .iconst 1), (18, .iadd), (19, .putfield 48), (22, .return_)]
def K_add3 (z : xzs) : xK := (xlook tb_add3, fun _ => none, xlook fl_AL, xlook [], xlook [], xlook [], xlook [(129, (1, 0, 7, f_gr0 z))], none)
def T_add3 (z : xzs) : xSp := xlook [(2, sp_alen z.1), (14, sp_aast)]
def tb_A_add : List (Nat × xI) := [(0, .aload_n 0), (1, .dup), (5, .iconst 1), (6, .iadd), (10, .aload_n 0), (11, .aload_n 1), (12, .aload_n 0), (13, .getfield 9), (16, .aload_n 0), (17, .getfield 48), (20, .invokevirtual 131), (23, .iconst 1), (24, .ireturn)]
def K_A_add (z : xzs) : xK := (xlook tb_A_add, fun _ => none, xlook fl_AL, xlook [], xlook [], xlook [], xlook [(131, (1, 3, 7, f_add3 z))], some .boolean)
def T_A_add : xSp := xlook [(2, sp_get 7 1), (7, sp_put 7 1)]
def tb_fr : List (Nat × xI) := [(0, .aload_n 0), (1, .dup), (5, .iconst 1), (6, .iadd), (10, .aload_n 0), (11, .getfield 48), (14, .iconst 1), (15, .isub), (16, .dup), (17, .istore_n 3), (18, .iload_n 2), (19, .if_icmp .le 15), (22, .aload_n 1), (23, .iload_n 2), (24, .iconst 1), (25, .iadd), (26, .aload_n 1), (27, .iload_n 2), (28, .iload_n 3), (29, .iload_n 2), (30, .isub), (34, .aload_n 1), (35, .aload_n 0), (36, .iload_n 3), (37, .dup_x1), (38, .putfield 48), (41, .aconst_null), (42, .aastore), (43, .return_)]
def K_fr : xK := (xlook tb_fr, fun _ => none, xlook fl_AL, xlook [], xlook [], xlook [], xlook [], none)
def T_fr : xSp := xlook [(2, sp_get 7 1), (7, sp_put 7 1), (31, sp_copy)]
def tb_A_remove : List (Nat × xI) := [(0, .iload_n 1), (1, .aload_n 0), (2, .getfield 48), (5, .invokestatic 118), (8, .pop), (9, .aload_n 0), (10, .getfield 9), (13, .astore_n 2), (14, .aload_n 2), (15, .iload_n 1), (16, .aaload), (17, .astore_n 3), (18, .aload_n 0), (19, .aload_n 2), (20, .iload_n 1), (21, .invokevirtual 144), (24, .aload_n 3), (25, .areturn)]
def K_A_remove : xK := (xlook tb_A_remove, fun _ => none, xlook fl_AL, xlook [], xlook [], xlook [], xlook [(118, (0, 2, 0, f_oci)), (144, (1, 2, 7, f_fr))], some (.object "java/lang/Object"))
-- runs
/-- a method's run, whatever its arguments -/
def xRun (K : xK) (T : xSp) (nL : Nat) (f : xF) : Prop := ∀ (as : List Value) (h : xH) (r : xR), f as h = some r → (as.length ≤ nL ∧ as.all (fun v => v.category == 1) = true) ∧ xrE K T (0, xargs 0 as, [], h) r
theorem rs_put {K : xK} {T : xSp} {pc idx a k : Nat} {ty : FieldType} {v : Value} {L : xL} {t : List Value} {h h' : xH} {r : xR} (hT : T pc = none) (hc : xcd K pc = some (.putfield idx)) (hm : xmk K pc = none) (hf : xfl K idx = some (7, k, ty, 1)) (hn : narrow ty v = v) (hfit : fits ty v = true) (hw : xwr h a 7 k v = some h') (kk : xrE K T (pc + 3, L, t, h') r) : xrE K T (pc, L, v :: .ref a :: t, h) r := by
  refine rs_s (x' := (pc + 3, L, t, h')) ?_ kk
  rw [xoS_am (by rw [hT]; rfl)]
  unfold xstep
  rw [hc, Option.bind_some, hm]
  show xmem K (.putfield idx) pc L (v :: .ref a :: t) h = _
  unfold xmem
  simp only [hf, Option.bind_some, xpop1, xpopa, xpopr, xrv, hn, hfit, hw]
  simp
theorem rs_get {K : xK} {T : xSp} {pc idx a k : Nat} {ty : FieldType} {v : Value} {L : xL} {t : List Value} {h : xH} {r : xR} {md : Nat} (hT : T pc = none) (hc : xcd K pc = some (.getfield idx)) (hm : xmk K pc = none) (hf : xfl K idx = some (7, k, ty, md)) (hw : xrd h a 7 k = some v) (kk : xrE K T (pc + 3, L, v :: t, h) r) : xrE K T (pc, L, .ref a :: t, h) r := by
  refine rs_s (x' := (pc + 3, L, v :: t, h)) ?_ kk
  rw [xoS_am (by rw [hT]; rfl)]
  unfold xstep
  rw [hc, Option.bind_some, hm]
  show xmem K (.getfield idx) pc L (.ref a :: t) h = _
  unfold xmem
  simp only [hf, Option.bind_some, xpop1, xpopa, xpopr, xrv, hw]
theorem rs_sp {K : xK} {T : xSp} {x x' : xX} {r : xR} {g : xX → Option xX} (h : T x.1 = some g) (hg : g x = some x') (k : xrE K T x' r) : xrE K T x r := rs_s (xoS_sp h hg) k
theorem rs_if {K : xK} {T : xSp} {pc q : Nat} {cd : Jvm.ClassFile.Cond} {off : Int} {x : Int32} {L : xL} {t : List Value} {h : xH} {r : xR} (hT : T pc = none) (hc : xcd K pc = some (.ifCond cd off)) (hm : xmk K pc = none) (hq : xjmp pc off = some q) (k1 : xcnd cd x 0 = true → xrE K T (q, L, t, h) r) (k2 : ¬ xcnd cd x 0 = true → xrE K T (pc + 3, L, t, h) r) : xrE K T (pc, L, .int x :: t, h) r := by
  have e : xoS K T (pc, L, .int x :: t, h) = if xcnd cd x 0 = true then some (.inl (q, L, t, h)) else some (.inl (pc + 3, L, t, h)) := by
    rw [xoS_am (by rw [hT]; rfl)]
    unfold xstep
    rw [hc, Option.bind_some, hm]
    show xbranch (.ifCond cd off) pc L (.int x :: t) h = _
    unfold xbranch
    simp only [hq, Option.bind_some, xpopi, xpop1, xiv]
  by_cases w : xcnd cd x 0 = true
  · exact rs_s (by rw [e, if_pos w]) (k1 w)
  · exact rs_s (by rw [e, if_neg w]) (k2 w)
theorem rs_icmp {K : xK} {T : xSp} {pc q : Nat} {cd : Jvm.ClassFile.Cond} {off : Int} {x y : Int32} {L : xL} {t : List Value} {h : xH} {r : xR} (hT : T pc = none) (hc : xcd K pc = some (.if_icmp cd off)) (hm : xmk K pc = none) (hq : xjmp pc off = some q) (k1 : xcnd cd x y = true → xrE K T (q, L, t, h) r) (k2 : ¬ xcnd cd x y = true → xrE K T (pc + 3, L, t, h) r) : xrE K T (pc, L, .int y :: .int x :: t, h) r := by
  have e : xoS K T (pc, L, .int y :: .int x :: t, h) = if xcnd cd x y = true then some (.inl (q, L, t, h)) else some (.inl (pc + 3, L, t, h)) := by
    rw [xoS_am (by rw [hT]; rfl)]
    unfold xstep
    rw [hc, Option.bind_some, hm]
    show xbranch (.if_icmp cd off) pc L (.int y :: .int x :: t) h = _
    unfold xbranch
    simp only [hq, Option.bind_some, xpopi, xpop1, xiv]
  by_cases w : xcnd cd x y = true
  · exact rs_s (by rw [e, if_pos w]) (k1 w)
  · exact rs_s (by rw [e, if_neg w]) (k2 w)
/-- a call comes back -/
theorem rs_call {K : xK} {T : xSp} {pc : Nat} {i : xI} {L : xL} {st t : List Value} {h h' : xH} {r : xR} {o : Option xR} {v : Option Value} (hT : T pc = none) (hc : xcd K pc = some i) (hm : xmk K pc = none) (hs : xsem K i pc L st h = o.bind (xback pc L t)) (ho : o = some (.inl v, h')) (k : xrE K T (pc + 3, L, v.toList ++ t, h') r) : xrE K T (pc, L, st, h) r := by
  refine rs_s (x' := (pc + 3, L, v.toList ++ t, h')) ?_ k
  rw [xoS_am (by rw [hT]; rfl)]
  unfold xstep
  rw [hc, Option.bind_some, hm]
  show xsem K i pc L st h = _
  rw [hs, ho]
  rfl
theorem rs_callI {K : xK} {T : xSp} {pc : Nat} {i : xI} {L : xL} {st t : List Value} {h h' : xH} {r : xR} {o : Option xR} {v : Option Value} (hT : T pc = none) (hc : xcd K pc = some i) (hm : xmk K pc = none) (hs : xsem K i pc L st h = o.bind (xbackI pc L t)) (ho : o = some (.inl v, h')) (k : xrE K T (pc + 3, L, v.toList ++ t, h') r) : xrE K T (pc, L, st, h) r := by
  refine rs_s (x' := (pc + 3, L, v.toList ++ t, h')) ?_ k
  rw [xoS_am (by rw [hT]; rfl)]
  unfold xstep
  rw [hc, Option.bind_some, hm]
  show xsem K i pc L st h = _
  rw [hs, ho]
  rfl
theorem rdI_rd {h : xH} {a ci k : Nat} {x : Int32} (e : rdI h a ci k = some x) : xrd h a ci k = some (.int x) := by
  obtain ⟨v, h1, h2⟩ := Option.bind_eq_some_iff.mp e
  rw [h1, xiv_some h2]
theorem rdR_rd {h : xH} {a ci k : Nat} {x : Option Nat} (e : rdR h a ci k = some x) : xrd h a ci k = some (va_rf x) := by
  obtain ⟨v, h1, h2⟩ := Option.bind_eq_some_iff.mp e
  rw [h1, xrv_some h2]
theorem xrd_isO {h : xH} {a ci k : Nat} {v : Value} (e : xrd h a ci k = some v) : xisO h a ci = some () := by
  obtain ⟨e0, h1, h2⟩ := Option.bind_eq_some_iff.mp e
  obtain ⟨fs, h3, h4⟩ := Option.bind_eq_some_iff.mp h2
  unfold xisO
  rw [h1, Option.bind_some, h3]
  rfl
theorem run_ac_new : xRun K_ac_new tNo 1 f_ac_new := by
  intro as h r hf
  unfold f_ac_new at hf
  split at hf
  · cases hf
    exact ⟨⟨Nat.le_refl _, rfl⟩, rs_s rfl (rs_s rfl (rs_e rfl))⟩
  · cases hf
theorem run_al_new : xRun K_al_new tNo 1 f_al_new := by
  intro as h r hf
  unfold f_al_new at hf
  split at hf
  · obtain ⟨h', h1, h2⟩ := Option.bind_eq_some_iff.mp hf
    cases h2
    exact ⟨⟨Nat.le_refl _, rfl⟩, rs_s rfl (rs_s rfl (rs_s rfl (rs_s rfl (rs_put rfl rfl rfl rfl rfl rfl h1 (rs_e rfl)))))⟩
  · cases hf
theorem run_A_new (z : xzs) : xRun K_A_new (T_A_new z) 1 (f_A_new z) := by
  intro as h r hf
  unfold f_A_new at hf
  split at hf
  · rename_i a
    obtain ⟨h1, e1, hf⟩ := Option.bind_eq_some_iff.mp hf
    obtain ⟨h2, e2, hf⟩ := Option.bind_eq_some_iff.mp hf
    cases hf
    refine ⟨⟨Nat.le_refl _, rfl⟩, rs_s rfl ?_⟩
    refine rs_callI (o := f_al_new [.ref a] h) (v := none) (h' := h1) (t := []) rfl rfl rfl rfl (by show (xwr h a 7 1 (.int 0)).bind _ = _; rw [e1]; rfl) ?_
    exact rs_s rfl (rs_sp rfl rfl (rs_put rfl rfl rfl rfl rfl rfl e2 (rs_e rfl)))
  · cases hf
theorem run_A_size (z : xzs) : xRun K_A_size tNo 1 (f_A_size z) := by
  intro as h r hf
  unfold f_A_size at hf
  split at hf
  · obtain ⟨x, h1, h2⟩ := Option.bind_eq_some_iff.mp hf
    cases h2
    exact ⟨⟨Nat.le_refl _, rfl⟩, rs_s rfl (rs_get rfl rfl rfl rfl (rdI_rd h1) (rs_e rfl))⟩
  · cases hf
theorem run_pci : xRun K_pci tNo 3 f_pci := by
  intro as h r hf
  unfold f_pci at hf
  split at hf
  · rename_i i n
    split at hf
    · cases hf
    · rename_i hc
      cases hf
      refine ⟨⟨Nat.le_refl _, rfl⟩, rs_s rfl (rs_if (q := 9) rfl rfl rfl rfl (fun w => absurd (Or.inl (xc_lt.mp w)) hc) (fun _ => ?_))⟩
      refine rs_s rfl (rs_s rfl (rs_icmp (q := 16) rfl rfl rfl rfl (fun w => ?_) (fun w => ?_)))
      · exact rs_s rfl (rs_e rfl)
      · exact absurd (Or.inr (Int32.not_lt.mp (fun q => w (xc_lt.mpr q)))) hc
  · cases hf
theorem run_oci : xRun K_oci tNo 2 f_oci := by
  intro as h r hf
  unfold f_oci at hf
  split at hf
  · rename_i i n
    split at hf
    · cases hf
    · rename_i hc
      cases hf
      refine ⟨⟨Nat.le_refl _, rfl⟩, rs_s rfl (rs_s rfl (rs_s rfl ?_))⟩
      refine rs_call (o := f_pci [.int i, .int n, .null] h) (v := some (.int i)) (h' := h) (t := []) rfl rfl rfl rfl (if_neg hc) (rs_e rfl)
  · cases hf
