/-! THE ABSTRACT MACHINE: a method's bytecode run over a list of cells. 'xH': the first address, the slots that are used, the cells from that address on (an array's cell bears the number of its kind in place of its class). -/
abbrev xI : Type := Jvm.ClassFile.Instr
abbrev xH : Type := Nat × Nat × List va_E
abbrev xO : Type := Option Value ⊕ Nat
abbrev xL : Type := List (Nat × Value)
abbrev xX : Type := Nat × xL × List Value × xH
abbrev xR : Type := xO × xH
abbrev xF : Type := List Value → xH → Option xR
/-- a call: 0 static, 1 virtual, 2 a constructor, 3 Object's; how many arguments beside the receiver; the receiver's class; what it does -/
abbrev xC : Type := Nat × Nat × Nat × xF
/-- what a method's code speaks of: its code, the live variables at a block's head, its fields (class, place, type, 0 read alone, 1 written, 2 final and written in a constructor), the classes it makes, the kinds of arrays it makes, the classes it casts to, its calls, what it returns -/
abbrev xK : Type := (Nat → Option xI) × (Nat → Option (List Nat)) × (Nat → Option (Nat × Nat × FieldType × Nat)) × (Nat → Option (Nat × List Value)) × (Nat → Option Nat) × (Nat → Option Nat) × (Nat → Option xC) × Option FieldType
abbrev xcd (K : xK) : Nat → Option xI := K.1
abbrev xmk (K : xK) : Nat → Option (List Nat) := K.2.1
abbrev xfl (K : xK) : Nat → Option (Nat × Nat × FieldType × Nat) := K.2.2.1
abbrev xnw (K : xK) : Nat → Option (Nat × List Value) := K.2.2.2.1
abbrev xan (K : xK) : Nat → Option Nat := K.2.2.2.2.1
abbrev xcc (K : xK) : Nat → Option Nat := K.2.2.2.2.2.1
abbrev xca (K : xK) : Nat → Option xC := K.2.2.2.2.2.2.1
abbrev xrt (K : xK) : Option FieldType := K.2.2.2.2.2.2.2
-- the heap
def xn (h : xH) : Nat := h.1 + h.2.2.length
def xat (h : xH) (a : Nat) : Option va_E := if a < h.1 then none else h.2.2[a - h.1]?
def xset (h : xH) (a : Nat) (e : va_E) : xH := (h.1, h.2.1, h.2.2.set (a - h.1) e)
def xpush (h : xH) (k : Nat) (e : va_E) : xH := (h.1, h.2.1 + k, h.2.2 ++ [e])
def xob (ci : Nat) : va_E → Option (List Value)
  | .inr (c, fs) => if c = ci then some fs else none
  | .inl _ => none
def xrd (h : xH) (a ci k : Nat) : Option Value := (xat h a).bind fun e => (xob ci e).bind fun fs => fs[k]?
def xwr (h : xH) (a ci k : Nat) (v : Value) : Option xH := (xat h a).bind fun e => (xob ci e).bind fun fs => if k < fs.length then some (xset h a (.inr (ci, fs.set k v))) else none
/-- an array of ints of a kind: its length and its elements -/
def xai (kd : Nat) : va_E → Option (Nat × (Nat → Int32))
  | .inl (c, n, .inl f) => if c = kd then some (n, f) else none
  | _ => none
/-- an array of references: its kind, its length and its elements -/
def xatC (c : Nat) : Option String := match xaty[c]? with
  | some (.object C) => some C
  | _ => none
def xaq : va_E → Option (Nat × Nat × (Nat → Option Nat))
  | .inl (c, n, .inr (.inr (.inr (.inr f)))) => if (xatC c).isSome = true then some (c, n, f) else none
  | _ => none
def xaln : va_E → Option (Nat × Nat)
  | .inl (c, n, _) => if (xaty[c]?).isSome = true then some (c, n) else none
  | _ => none
def xcls : va_E → Option Nat
  | .inr (c, _) => some c
  | _ => none
-- values
def xiv : Value → Option Int32
  | .int x => some x
  | _ => none
def xrv : Value → Option (Option Nat)
  | .ref a => some (some a)
  | .null => some none
  | _ => none
theorem xiv_some {v : Value} {x : Int32} (h : xiv v = some x) : v = .int x := by
  cases v <;> simp [xiv] at h; rw [h]
theorem xrv_some {v : Value} {r : Option Nat} (h : xrv v = some r) : v = va_rf r := by
  cases v <;> simp [xrv] at h <;> rw [← h] <;> rfl
theorem xrv_rf (r : Option Nat) : xrv (va_rf r) = some r := by cases r <;> rfl
theorem xcat_rf (r : Option Nat) : (va_rf r).category = 1 := by cases r <;> rfl
-- variables
def xld (i : Nat) : xL → Option Value
  | [] => none
  | q :: t => if q.1 = i then some q.2 else xld i t
def xins (i : Nat) (v : Value) : xL → xL
  | [] => [(i, v)]
  | q :: t => if i < q.1 then (i, v) :: q :: t else q :: xins i v t
def xst (i : Nat) (v : Value) (L : xL) : xL := xins i v (L.filter (fun q => q.1 != i))
def xmask : Option (List Nat) → xL → xL
  | none, L => L
  | some ks, L => L.filter (fun q => ks.contains q.1)
def xargs : Nat → List Value → xL
  | _, [] => []
  | i, v :: vs => (i, v) :: xargs (i + 1) vs
theorem xld_mem {i : Nat} {v : Value} : ∀ {L : xL}, xld i L = some v → (i, v) ∈ L
  | [], h => by simp [xld] at h
  | q :: t, h => by
    unfold xld at h
    split at h
    · rename_i e; cases h; subst e; exact List.mem_cons_self
    · exact List.mem_cons_of_mem _ (xld_mem h)
theorem xins_mem {i : Nat} {v : Value} {q : Nat × Value} : ∀ {L : xL}, q ∈ xins i v L → q = (i, v) ∨ q ∈ L
  | [], h => by simp [xins] at h; exact Or.inl h
  | p :: t, h => by
    unfold xins at h
    split at h
    · rcases List.mem_cons.mp h with h | h
      · exact Or.inl h
      · exact Or.inr h
    · rcases List.mem_cons.mp h with h | h
      · rw [h]; exact Or.inr List.mem_cons_self
      · rcases xins_mem h with h | h
        · exact Or.inl h
        · exact Or.inr (List.mem_cons_of_mem _ h)
theorem xst_mem {i : Nat} {v : Value} {L : xL} {q : Nat × Value} (h : q ∈ xst i v L) : q = (i, v) ∨ (q ∈ L ∧ q.1 ≠ i) := by
  rcases xins_mem h with h | h
  · exact Or.inl h
  · have := List.mem_filter.mp h
    exact Or.inr ⟨this.1, by simpa using this.2⟩
theorem xmask_mem {o : Option (List Nat)} {L : xL} {q : Nat × Value} (h : q ∈ xmask o L) : q ∈ L := by
  cases o with
  | none => exact h
  | some ks => exact (List.mem_filter.mp h).1
-- one instruction
abbrev xS : Type := Option (xX ⊕ xR)
abbrev xnext (pc : Nat) (L : xL) (st : List Value) (h : xH) : xS := some (.inl (pc, L, st, h))
abbrev xend (o : xO) (h : xH) : xS := some (.inr (o, h))
def xjmp (pc : Nat) (off : Int) : Option Nat := if 0 ≤ (pc : Int) + off then some ((pc : Int) + off).toNat else none
theorem xjmp_eq {pc q : Nat} {off : Int} (h : xjmp pc off = some q) : (pc : Int) + off = (q : Int) := by
  unfold xjmp at h
  split at h
  · cases h; omega
  · cases h
def xcnd (c : Jvm.ClassFile.Cond) (x y : Int32) : Bool := match c with
  | .eq => decide (x = y)
  | .ne => decide (¬ x = y)
  | .lt => decide (x < y)
  | .ge => decide (y ≤ x)
  | .gt => decide (y < x)
  | .le => decide (x ≤ y)
def xpop1 (st : List Value) : Option (Value × List Value) := match st with
  | v :: t => some (v, t)
  | [] => none
def xpopi (st : List Value) : Option (Int32 × List Value) := (xpop1 st).bind fun q => (xiv q.1).bind fun x => some (x, q.2)
def xpopr (st : List Value) : Option (Option Nat × List Value) := (xpop1 st).bind fun q => (xrv q.1).bind fun r => some (r, q.2)
def xpopa (st : List Value) : Option (Nat × List Value) := (xpopr st).bind fun q => q.1.bind fun a => some (a, q.2)
theorem xpop1_eq {st t : List Value} {v : Value} (h : xpop1 st = some (v, t)) : st = v :: t := by
  cases st <;> simp [xpop1] at h; rw [h.1, h.2]
theorem xpopi_eq {st t : List Value} {x : Int32} (h : xpopi st = some (x, t)) : st = .int x :: t := by
  obtain ⟨⟨v, t'⟩, h1, h2⟩ := Option.bind_eq_some_iff.mp h
  obtain ⟨y, h3, h4⟩ := Option.bind_eq_some_iff.mp h2
  cases h4
  have h3 : xiv v = some x := h3
  rw [xpop1_eq h1, xiv_some h3]
theorem xpopr_eq {st t : List Value} {r : Option Nat} (h : xpopr st = some (r, t)) : st = va_rf r :: t := by
  obtain ⟨⟨v, t'⟩, h1, h2⟩ := Option.bind_eq_some_iff.mp h
  obtain ⟨y, h3, h4⟩ := Option.bind_eq_some_iff.mp h2
  cases h4
  have h3 : xrv v = some r := h3
  rw [xpop1_eq h1, xrv_some h3]
theorem xpopa_eq {st t : List Value} {a : Nat} (h : xpopa st = some (a, t)) : st = .ref a :: t := by
  obtain ⟨⟨r, t'⟩, h1, h2⟩ := Option.bind_eq_some_iff.mp h
  obtain ⟨y, h3, h4⟩ := Option.bind_eq_some_iff.mp h2
  cases h4
  rw [xpopr_eq h1]
  have h3 : r = some a := h3
  rw [h3]; rfl
def xbin (f : Int32 → Int32 → Int32) (pc : Nat) (L : xL) (st : List Value) (h : xH) : xS :=
  (xpopi st).bind fun y => (xpopi y.2).bind fun x => xnext (pc + 1) L (.int (f x.1 y.1) :: x.2) h
def xgo (pc : Nat) (off : Int) (L : xL) (st : List Value) (h : xH) : xS := (xjmp pc off).bind fun q => xnext q L st h
def xback (pc : Nat) (L : xL) (t : List Value) (r : xR) : xS := match r.1 with
  | .inl v => xnext (pc + 3) L (v.toList ++ t) r.2
  | .inr a => xend (.inr a) r.2
def xbackI (pc : Nat) (L : xL) (t : List Value) (r : xR) : xS := match r.1 with
  | .inl v => xnext (pc + 3) L (v.toList ++ t) r.2
  | .inr _ => none
/-- what lies on the stack below a call weighs little -/
abbrev xok (t : List Value) : Prop := t.length ≤ 4 ∨ (t.map fun v => v.category).sum ≤ 8
def xcall (K : xK) (kd idx pc : Nat) (L : xL) (st : List Value) (h : xH) : xS :=
  (xca K idx).bind fun c =>
    if c.1 = kd ∧ c.2.1 ≤ st.length then
      if kd = 0 then (if xok (st.drop c.2.1) then (c.2.2.2 (st.take c.2.1).reverse h).bind (xback pc L (st.drop c.2.1)) else none)
      else (xpopa (st.drop c.2.1)).bind fun b =>
        if xok b.2 then
          if kd = 3 then (if c.2.1 = 0 then xnext (pc + 3) L b.2 h else none)
          else if kd = 1 then (xat h b.1).bind fun e => (xob c.2.2.1 e).bind fun _ => (c.2.2.2 (.ref b.1 :: (st.take c.2.1).reverse) h).bind (xback pc L b.2)
          else (c.2.2.2 (.ref b.1 :: (st.take c.2.1).reverse) h).bind (xbackI pc L b.2)
        else none
    else none
def xcopy (pc : Nat) (L : xL) (st : List Value) (h : xH) : xS :=
  (xpopi st).bind fun n => (xpopi n.2).bind fun dp => (xpopa dp.2).bind fun d => (xpopi d.2).bind fun sp => (xpopa sp.2).bind fun s => (xat h s.1).bind fun es => (xai 0 es).bind fun qs => (xat h d.1).bind fun ed => (xai 0 ed).bind fun qd =>
    if ¬ sp.1 < 0 ∧ ¬ dp.1 < 0 ∧ ¬ n.1 < 0 ∧ sp.1.toNatClampNeg + n.1.toNatClampNeg ≤ qs.1 ∧ dp.1.toNatClampNeg + n.1.toNatClampNeg ≤ qd.1 ∧ s.2.length ≤ 4 then
      xnext (pc + 3) L s.2 (xset h d.1 (.inl (0, qd.1, .inl (va_cpy qs.2 qd.2 sp.1.toNatClampNeg dp.1.toNatClampNeg n.1.toNatClampNeg)))) else none
def xix (i : Int32) (n : Nat) : Option Nat := if i < 0 ∨ n ≤ i.toNatClampNeg then none else some i.toNatClampNeg
theorem xix_in {i : Int32} {n j : Nat} (h : xix i n = some j) : vp_in i n ∧ i.toNatClampNeg = j := by
  unfold xix at h
  split at h
  · cases h
  · rename_i q; cases h; exact ⟨q, rfl⟩
def xmath (i : xI) (pc : Nat) (L : xL) (st : List Value) (h : xH) : xS := match i with
  | .iadd => xbin (fun x y => x + y) pc L st h
  | .isub => xbin (fun x y => x - y) pc L st h
  | .imul => xbin (fun x y => x * y) pc L st h
  | .iand => xbin (fun x y => x &&& y) pc L st h
  | .ior => xbin (fun x y => x ||| y) pc L st h
  | .ixor => xbin (fun x y => x ^^^ y) pc L st h
  | .ishl => xbin (fun x y => x <<< (y &&& 31)) pc L st h
  | .ishr => xbin (fun x y => x >>> (y &&& 31)) pc L st h
  | .iushr => xbin (fun x y => (x.toUInt32 >>> (y.toUInt32 &&& Int32.toUInt32 31)).toInt32) pc L st h
  | .idiv => (xpopi st).bind fun y => (xpopi y.2).bind fun x => if y.1 = 0 then none else xnext (pc + 1) L (.int (x.1 / y.1) :: x.2) h
  | .irem => (xpopi st).bind fun y => (xpopi y.2).bind fun x => if y.1 = 0 then none else xnext (pc + 1) L (.int (x.1 - x.1 / y.1 * y.1) :: x.2) h
  | .ineg => (xpopi st).bind fun x => xnext (pc + 1) L (.int (-x.1) :: x.2) h
  | _ => none
def xvars (i : xI) (pc : Nat) (L : xL) (st : List Value) (h : xH) : xS := match i with
  | .iconst n => xnext (pc + 1) L (.int (Int32.ofInt n) :: st) h
  | .bipush n => xnext (pc + 2) L (.int (Int8.ofInt n).toInt32 :: st) h
  | .sipush n => xnext (pc + 3) L (.int (Int16.ofInt n).toInt32 :: st) h
  | .aconst_null => xnext (pc + 1) L (.null :: st) h
  | .iload_n k => (xld k.val L).bind fun v => (xiv v).bind fun x => xnext (pc + 1) L (.int x :: st) h
  | .iload k => (xld k L).bind fun v => (xiv v).bind fun x => xnext (pc + 2) L (.int x :: st) h
  | .aload_n k => (xld k.val L).bind fun v => (xrv v).bind fun r => xnext (pc + 1) L (va_rf r :: st) h
  | .aload k => (xld k L).bind fun v => (xrv v).bind fun r => xnext (pc + 2) L (va_rf r :: st) h
  | .istore_n k => (xpopi st).bind fun x => xnext (pc + 1) (xst k.val (.int x.1) L) x.2 h
  | .istore k => (xpopi st).bind fun x => xnext (pc + 2) (xst k (.int x.1) L) x.2 h
  | .astore_n k => (xpopr st).bind fun x => xnext (pc + 1) (xst k.val (va_rf x.1) L) x.2 h
  | .astore k => (xpopr st).bind fun x => xnext (pc + 2) (xst k (va_rf x.1) L) x.2 h
  | .iinc k n => (xld k L).bind fun v => (xiv v).bind fun x => xnext (pc + 3) (xst k (.int (x + Int32.ofInt n)) L) st h
  | .dup => (xpop1 st).bind fun v => if v.1.category = 1 then xnext (pc + 1) L (v.1 :: v.1 :: v.2) h else none
  | .dup_x1 => (xpop1 st).bind fun v => (xpop1 v.2).bind fun w => if v.1.category = 1 ∧ w.1.category = 1 then xnext (pc + 1) L (v.1 :: w.1 :: v.1 :: w.2) h else none
  | .dup2 => (xpop1 st).bind fun v => (xpop1 v.2).bind fun w => if v.1.category = 1 ∧ w.1.category = 1 then xnext (pc + 1) L (v.1 :: w.1 :: v.1 :: w.1 :: w.2) h else none
  | .pop => (xpop1 st).bind fun v => if v.1.category = 1 then xnext (pc + 1) L v.2 h else none
  | _ => none
def xbranch (i : xI) (pc : Nat) (L : xL) (st : List Value) (h : xH) : xS := match i with
  | .goto off => xgo pc off L st h
  | .ifCond c off => (xjmp pc off).bind fun q => (xpopi st).bind fun x => if xcnd c x.1 0 = true then xnext q L x.2 h else xnext (pc + 3) L x.2 h
  | .if_icmp c off => (xjmp pc off).bind fun q => (xpopi st).bind fun y => (xpopi y.2).bind fun x => if xcnd c x.1 y.1 = true then xnext q L x.2 h else xnext (pc + 3) L x.2 h
  | .ifnull off => (xjmp pc off).bind fun q => (xpopr st).bind fun x => if x.1 = none then xnext q L x.2 h else xnext (pc + 3) L x.2 h
  | .ifnonnull off => (xjmp pc off).bind fun q => (xpopr st).bind fun x => if x.1 = none then xnext (pc + 3) L x.2 h else xnext q L x.2 h
  | .if_acmp .eq off => (xjmp pc off).bind fun q => (xpopr st).bind fun y => (xpopr y.2).bind fun x => if x.1 = y.1 then xnext q L x.2 h else xnext (pc + 3) L x.2 h
  | .if_acmp .ne off => (xjmp pc off).bind fun q => (xpopr st).bind fun y => (xpopr y.2).bind fun x => if x.1 = y.1 then xnext (pc + 3) L x.2 h else xnext q L x.2 h
  | .tableswitch d lo hi offs => (xpopi st).bind fun x => if x.1.toInt < lo ∨ hi < x.1.toInt then xgo pc d L x.2 h else (offs[(x.1.toInt - lo).toNat]?).bind fun off => xgo pc off L x.2 h
  | .lookupswitch d ps => if (ps.toList.zip (ps.toList.drop 1)).all (fun (a, next) => a.1 < next.1) = true then (xpopi st).bind fun x => xgo pc (Op.lookupswitch.offset ps.toList d x.1.toInt) L x.2 h else none
  | _ => none
def xmem (K : xK) (i : xI) (pc : Nat) (L : xL) (st : List Value) (h : xH) : xS := match i with
  | .getfield idx => (xfl K idx).bind fun f => (xpopa st).bind fun a => (xrd h a.1 f.1 f.2.1).bind fun v => xnext (pc + 3) L (v :: a.2) h
  | .putfield idx => (xfl K idx).bind fun f => (xpop1 st).bind fun v => (xpopa v.2).bind fun a => if ¬ f.2.2.2 = 0 ∧ narrow f.2.2.1 v.1 = v.1 ∧ fits f.2.2.1 v.1 = true then (xwr h a.1 f.1 f.2.1 v.1).bind fun h' => xnext (pc + 3) L a.2 h' else none
  | .new idx => (xnw K idx).bind fun f => xnext (pc + 3) L (.ref (xn h) :: st) (xpush h f.2.length (.inr f))
  | .newarray .int => (xpopi st).bind fun n => if n.1 < 0 ∨ 100000 < n.1.toNatClampNeg then none else xnext (pc + 2) L (.ref (xn h) :: n.2) (xpush h n.1.toNatClampNeg (.inl (0, n.1.toNatClampNeg, .inl (fun _ => 0))))
  | .newarray .boolean => (xpopi st).bind fun n => if n.1 < 0 ∨ 100000 < n.1.toNatClampNeg then none else xnext (pc + 2) L (.ref (xn h) :: n.2) (xpush h n.1.toNatClampNeg (.inl (1, n.1.toNatClampNeg, .inl (fun _ => 0))))
  | .anewarray idx => (xan K idx).bind fun kd => (xpopi st).bind fun n => if n.1 < 0 ∨ 100000 < n.1.toNatClampNeg then none else xnext (pc + 3) L (.ref (xn h) :: n.2) (xpush h n.1.toNatClampNeg (.inl (kd, n.1.toNatClampNeg, .inr (.inr (.inr (.inr (fun _ => none)))))))
  | .arraylength => (xpopa st).bind fun a => (xat h a.1).bind fun e => (xaln e).bind fun q => xnext (pc + 1) L (.int (Int32.ofNat q.2) :: a.2) h
  | .iaload => (xpopi st).bind fun i => (xpopa i.2).bind fun a => (xat h a.1).bind fun e => (xai 0 e).bind fun q => (xix i.1 q.1).bind fun j => xnext (pc + 1) L (.int (q.2 j) :: a.2) h
  | .baload => (xpopi st).bind fun i => (xpopa i.2).bind fun a => (xat h a.1).bind fun e => (xai 1 e).bind fun q => (xix i.1 q.1).bind fun j => xnext (pc + 1) L (.int (q.2 j) :: a.2) h
  | .aaload => (xpopi st).bind fun i => (xpopa i.2).bind fun a => (xat h a.1).bind fun e => (xaq e).bind fun q => (xix i.1 q.2.1).bind fun j => xnext (pc + 1) L (va_rf (q.2.2 j) :: a.2) h
  | .iastore => (xpopi st).bind fun x => (xpopi x.2).bind fun i => (xpopa i.2).bind fun a => (xat h a.1).bind fun e => (xai 0 e).bind fun q => (xix i.1 q.1).bind fun j => xnext (pc + 1) L a.2 (xset h a.1 (.inl (0, q.1, .inl (upd q.2 j x.1))))
  | .bastore => (xpopi st).bind fun x => (xpopi x.2).bind fun i => (xpopa i.2).bind fun a => (xat h a.1).bind fun e => (xai 1 e).bind fun q => (xix i.1 q.1).bind fun j => xnext (pc + 1) L a.2 (xset h a.1 (.inl (1, q.1, .inl (upd q.2 j (vp_nar .boolean x.1)))))
  | .aastore => (xpopr st).bind fun x => (xpopi x.2).bind fun i => (xpopa i.2).bind fun a => (xat h a.1).bind fun e => (xaq e).bind fun q => (xix i.1 q.2.1).bind fun j =>
      (match x.1 with
      | none => xnext (pc + 1) L a.2 (xset h a.1 (.inl (q.1, q.2.1, .inr (.inr (.inr (.inr (va_up q.2.2 j none)))))))
      | some y => (xat h y).bind fun ey => (xcls ey).bind fun ci => if (vwCl[ci]?).map (fun r => r.1) = xatC q.1 then xnext (pc + 1) L a.2 (xset h a.1 (.inl (q.1, q.2.1, .inr (.inr (.inr (.inr (va_up q.2.2 j (some y)))))))) else none)
  | .checkcast idx => (xpopr st).bind fun x =>
      (match x.1 with
      | none => xnext (pc + 3) L (.null :: x.2) h
      | some y => (xcc K idx).bind fun ci => (xat h y).bind fun ey => (xob ci ey).bind fun _ => xnext (pc + 3) L (.ref y :: x.2) h)
  | _ => none
def xcalls (K : xK) (i : xI) (pc : Nat) (L : xL) (st : List Value) (h : xH) : xS := match i with
  | .invokestatic idx => (xca K idx).bind fun c => if c.1 = 4 then xcopy pc L st h else xcall K 0 idx pc L st h
  | .invokevirtual idx => xcall K 1 idx pc L st h
  | .invokespecial idx => (xca K idx).bind fun c => if c.1 = 3 then xcall K 3 idx pc L st h else xcall K 2 idx pc L st h
  | .ireturn => (xpopi st).bind fun x => if x.2 = [] then (if xrt K = some .int ∨ (xrt K = some .boolean ∧ (x.1 = 0 ∨ x.1 = 1)) then xend (.inl (some (.int x.1))) h else none) else none
  | .areturn => (xpopr st).bind fun x => if x.2 = [] then (if (xrt K).any (fun t => t.isReference) = true then xend (.inl (some (va_rf x.1))) h else none) else none
  | .return_ => if st = [] then (if xrt K = none then xend (.inl none) h else none) else none
  | .athrow => (xpopa st).bind fun a => xend (.inr a.1) h
  | _ => none
/-- what kind of instruction it is -/
def xkd : xI → Nat
  | .iadd | .isub | .imul | .iand | .ior | .ixor | .ishl | .ishr | .iushr | .idiv | .irem | .ineg => 1
  | .iconst _ | .bipush _ | .sipush _ | .aconst_null | .iload_n _ | .iload _ | .aload_n _ | .aload _ | .istore_n _ | .istore _ | .astore_n _ | .astore _ | .iinc _ _ | .dup | .dup_x1 | .dup2 | .pop => 2
  | .goto _ | .ifCond _ _ | .if_icmp _ _ | .ifnull _ | .ifnonnull _ | .if_acmp _ _ | .tableswitch _ _ _ _ | .lookupswitch _ _ => 3
  | .getfield _ | .putfield _ | .new _ | .newarray _ | .anewarray _ | .arraylength | .iaload | .baload | .aaload | .iastore | .bastore | .aastore | .checkcast _ => 4
  | .invokestatic _ | .invokevirtual _ | .invokespecial _ | .ireturn | .areturn | .return_ | .athrow => 5
  | _ => 0
def xlen : xI → Nat
  | .tableswitch _ _ _ _ | .lookupswitch _ _ => 0
  | .bipush _ | .iload _ | .aload _ | .istore _ | .astore _ | .newarray _ => 2
  | .sipush _ | .iinc _ _ | .goto _ | .ifCond _ _ | .if_icmp _ _ | .ifnull _ | .ifnonnull _ | .if_acmp _ _ | .getfield _ | .putfield _ | .new _ | .anewarray _ | .checkcast _ | .invokestatic _ | .invokevirtual _ | .invokespecial _ => 3
  | _ => 1
def xsem (K : xK) (i : xI) (pc : Nat) (L : xL) (st : List Value) (h : xH) : xS :=
  if xkd i = 1 then xmath i pc L st h else if xkd i = 2 then xvars i pc L st h else if xkd i = 3 then xbranch i pc L st h else if xkd i = 4 then xmem K i pc L st h else if xkd i = 5 then xcalls K i pc L st h else none
def xstep (K : xK) (x : xX) : xS := (xcd K x.1).bind fun i => xsem K i x.1 (xmask (xmk K x.1) x.2.1) x.2.2.1 x.2.2.2
def xrun (K : xK) : Nat → xX → Option xR
  | 0, _ => none
  | n + 1, x => (xstep K x).bind fun y => match y with
    | .inl x' => xrun K n x'
    | .inr r => some r
theorem xrun_succ {K : xK} : ∀ {n : Nat} {x : xX} {r : xR}, xrun K n x = some r → xrun K (n + 1) x = some r
  | 0, _, _, h => by simp [xrun] at h
  | n + 1, x, r, h => by
    unfold xrun at h ⊢
    obtain ⟨y, h1, h2⟩ := Option.bind_eq_some_iff.mp h
    rw [h1]
    cases y with
    | inl x' => exact xrun_succ (n := n) h2
    | inr r' => exact h2
theorem xrun_add {K : xK} {n : Nat} {x : xX} {r : xR} (h : xrun K n x = some r) : ∀ k : Nat, xrun K (n + k) x = some r
  | 0 => h
  | k + 1 => xrun_succ (xrun_add h k)
theorem xrun_det {K : xK} {n n' : Nat} {x : xX} {r r' : xR} (h : xrun K n x = some r) (h' : xrun K n' x = some r') : r = r' := by
  have a := xrun_add h n'
  have b := xrun_add h' n
  rw [Nat.add_comm n' n] at b
  exact Option.some.inj (a.symm.trans b)
noncomputable def xev (K : xK) (x : xX) : Option xR := @dite _ (∃ r : xR, ∃ n : Nat, xrun K n x = some r) (Classical.propDecidable _) (fun h => some (Classical.choose h)) (fun _ => none)
theorem xev_of {K : xK} {x : xX} {r : xR} {n : Nat} (h : xrun K n x = some r) : xev K x = some r := by
  have he : ∃ r : xR, ∃ n : Nat, xrun K n x = some r := ⟨r, n, h⟩
  unfold xev
  rw [dif_pos he]
  obtain ⟨n', h'⟩ := Classical.choose_spec he
  rw [xrun_det h' h]
theorem xev_run {K : xK} {x : xX} {r : xR} (h : xev K x = some r) : ∃ n : Nat, xrun K n x = some r := by
  unfold xev at h
  split at h
  · rename_i he
    obtain ⟨n', h'⟩ := Classical.choose_spec he
    cases h
    exact ⟨n', h'⟩
  · cases h
/-- one step of the whole run -/
theorem xev_step (K : xK) (x : xX) : xev K x = (xstep K x).bind (Sum.elim (xev K) some) := by
  have key : ∀ r : xR, xev K x = some r ↔ (xstep K x).bind (Sum.elim (xev K) some) = some r := by
    intro r
    constructor
    · intro h
      obtain ⟨n, hn⟩ := xev_run h
      cases n with
      | zero => simp [xrun] at hn
      | succ n =>
        unfold xrun at hn
        obtain ⟨y, h1, h2⟩ := Option.bind_eq_some_iff.mp hn
        rw [h1]
        cases y with
        | inl x' => exact xev_of h2
        | inr r' => exact h2
    · intro h
      obtain ⟨y, h1, h2⟩ := Option.bind_eq_some_iff.mp h
      cases y with
      | inl x' =>
        obtain ⟨n, hn⟩ := xev_run (show xev K x' = some r from h2)
        refine xev_of (n := n + 1) ?_
        unfold xrun
        rw [h1]
        exact hn
      | inr r' =>
        refine xev_of (n := 1) ?_
        unfold xrun
        rw [h1]
        exact h2
  cases h1 : xev K x with
  | some r => exact ((key r).mp h1).symm
  | none =>
    cases h2 : (xstep K x).bind (Sum.elim (xev K) some) with
    | none => rfl
    | some r => rw [(key r).mpr h2] at h1; cases h1
/-- a method as a function -/
noncomputable def xfun (K : xK) (nL : Nat) : xF := fun as h => if as.length ≤ nL ∧ as.all (fun v => v.category == 1) = true then xev K (0, xargs 0 as, [], h) else none
