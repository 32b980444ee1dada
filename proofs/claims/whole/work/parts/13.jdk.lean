/-! The library's own methods, as functions. -/
def f_A_new (z : xzs) : xF := fun as h => match as with
  | [.ref a] => (xwr h a 7 1 (.int 0)).bind fun h1 => (xwr h1 a 7 0 (.ref z.1)).bind fun h' => some (.inl none, h')
  | _ => none
def f_A_size (_ : xzs) : xF := fun as h => match as with
  | [.ref a] => (rdI h a 7 2).bind fun s => some (.inl (some (.int s)), h)
  | _ => none
def f_A_get (_ : xzs) : xF := fun as h => match as with
  | [.ref a, .int i] => (rdI h a 7 2).bind fun s => if i < 0 ∨ s ≤ i then none else (rdR h a 7 0).bind fun d => d.bind fun d => (rdQ h d i).bind fun v => some (.inl (some (va_rf v)), h)
  | _ => none
/-- the cell has three fields -/
def xlen3 (h : xH) (a : Nat) : Bool := match xat h a with
  | some (.inr (_, [_, _, _])) => true
  | _ => false
theorem xlen3_of {h : xH} {a ci : Nat} {x y w : Value} (e : xat h a = some (.inr (ci, [x, y, w]))) : xlen3 h a = true := by
  unfold xlen3
  rw [e]
/-- the three fields of a list: its array, how often it changed, its size -/
def xlist (h : xH) (a : Nat) : Option (Nat × Int32 × Int32) := (rdR h a 7 0).bind fun d => d.bind fun d => (rdI h a 7 1).bind fun m => (rdI h a 7 2).bind fun s => if xlen3 h a = true then some (d, m, s) else none
def xobs (f : Nat → Option Nat) (n : Nat) : va_E := .inl (4, n, .inr (.inr (.inr (.inr f))))
def xlset (h : xH) (a d : Nat) (m s : Int32) : xH := xset h a (.inr (7, [.ref d, .int m, .int s]))
/-- the first n elements are capabilities or null -/
def xcaps (h : xH) (n : Nat) (f : Nat → Option Nat) : Bool := (List.range n).all (fun j => match f j with | some y => (xisO h y 1).isSome | none => true)
def f_A_add (z : xzs) : xF := fun as h => match as with
  | [.ref a, .ref e] => (xisO h e 1).bind fun _ => (xlist h a).bind fun q =>
      if q.1 = z.1 then (if q.2.2 = 0 then some (.inl (some (.int 1)), xlset (xpush h 10 (xobs (va_up (fun _ => none) 0 (some e)) 10)) a (xn h) (q.2.1 + 1) 1) else none)
      else (xat h q.1).bind fun ed => (xaq ed).bind fun w => if w.1 = 4 ∧ ¬ q.2.2 < 0 ∧ w.2.1 ≤ 40000 ∧ 2 ≤ w.2.1 then
        (if q.2.2.toNatClampNeg < w.2.1 then some (.inl (some (.int 1)), xlset (xset h q.1 (xobs (va_up w.2.2 q.2.2.toNatClampNeg (some e)) w.2.1)) a q.1 (q.2.1 + 1) (q.2.2 + 1))
        else if q.2.2.toNatClampNeg = w.2.1 then (if xcaps h w.2.1 w.2.2 = true then some (.inl (some (.int 1)), xlset (xpush h (w.2.1 + w.2.1 / 2) (xobs (va_up (va_cpy w.2.2 (fun _ => none) 0 0 w.2.1) w.2.1 (some e)) (w.2.1 + w.2.1 / 2))) a (xn h) (q.2.1 + 1) (q.2.2 + 1)) else none) else none) else none
  | _ => none
def f_A_remove (_ : xzs) : xF := fun as h => match as with
  | [.ref a, .int i] => (xlist h a).bind fun q => if i < 0 ∨ q.2.2 ≤ i then none else (xat h q.1).bind fun ed => (xaq ed).bind fun w => if w.1 = 4 ∧ q.2.2.toNatClampNeg ≤ w.2.1 ∧ w.2.1 ≤ 100000 then
      (if (List.range q.2.2.toNatClampNeg).all (fun j => match w.2.2 j with | some y => (xisO h y 1).isSome | none => true) = true then
        some (.inl (some (va_rf (w.2.2 i.toNatClampNeg))), xlset (xset h q.1 (xobs (va_up (va_cpy w.2.2 w.2.2 (i.toNatClampNeg + 1) i.toNatClampNeg (q.2.2.toNatClampNeg - 1 - i.toNatClampNeg)) (q.2.2.toNatClampNeg - 1) none) w.2.1)) a q.1 (q.2.1 + 1) (q.2.2 - 1)) else none) else none
  | _ => none
/-- a new exception, by its class's number -/
def f_X (z : xzs) (ci : Nat) : xF := fun as h => match as with
  | [.ref a] => (xat h a).bind fun e => (xob ci e).bind fun fs => if fs = [.null, .null, .int 0, .null, .null, .null] then some (.inl none, xset h a (.inr (ci, [.null, .ref a, .int 0, .null, va_rf z.2.1, va_rf z.2.2.1]))) else none
  | _ => none
abbrev f_X_arg (z : xzs) : xF := f_X z 8
abbrev f_X_elem (z : xzs) : xF := f_X z 9
abbrev f_X_unsup (z : xzs) : xF := f_X z 10
abbrev f_X_state (z : xzs) : xF := f_X z 11
