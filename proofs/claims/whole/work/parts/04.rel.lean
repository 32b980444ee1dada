/-! THE ABSTRACT MACHINE AND THE REAL ONE: the cells of the one as cells of the other. -/
def xe (dA : Nat → ClassId) : va_E → va_E
  | .inl (k, x) => .inl (dA k, x)
  | .inr o => .inr o
def xwsA (dA : Nat → ClassId) : Nat → List va_E → va_W
  | _, [] => []
  | n, e :: t => (n, xe dA e) :: xwsA dA (n + 1) t
abbrev xws (dA : Nat → ClassId) (h : xH) : va_W := xwsA dA h.1 h.2.2
theorem xwsA_get (dA : Nat → ClassId) : ∀ (hs : List va_E) (n k : Nat), (xwsA dA n hs)[k]? = (hs[k]?).map (fun e => (n + k, xe dA e))
  | [], n, k => by simp [xwsA]
  | e :: t, n, 0 => by simp [xwsA]
  | e :: t, n, k + 1 => by
    have h := xwsA_get dA t (n + 1) k
    rw [show n + 1 + k = n + (k + 1) by omega] at h
    simpa [xwsA] using h
theorem xwsA_set (dA : Nat → ClassId) (e : va_E) : ∀ (hs : List va_E) (n k : Nat), (xwsA dA n hs).set k (n + k, xe dA e) = xwsA dA n (hs.set k e)
  | [], n, k => by simp [xwsA]
  | e' :: t, n, 0 => by simp [xwsA]
  | e' :: t, n, k + 1 => by
    have h := xwsA_set dA e t (n + 1) k
    rw [show n + 1 + k = n + (k + 1) by omega] at h
    simpa [xwsA] using h
theorem xwsA_push (dA : Nat → ClassId) (e : va_E) : ∀ (hs : List va_E) (n : Nat), xwsA dA n hs ++ [(n + hs.length, xe dA e)] = xwsA dA n (hs ++ [e])
  | [], n => by simp [xwsA]
  | e' :: t, n => by
    have h := xwsA_push dA e t (n + 1)
    rw [show n + 1 + t.length = n + (t.length + 1) by omega] at h
    simpa [xwsA] using h
theorem xat_at {h : xH} {a : Nat} {e : va_E} (hx : xat h a = some e) : h.1 ≤ a ∧ h.2.2[a - h.1]? = some e := by
  unfold xat at hx
  split at hx
  · cases hx
  · exact ⟨by omega, hx⟩
theorem xws_at (dA : Nat → ClassId) {h : xH} {a : Nat} {e : va_E} (hx : xat h a = some e) : (xws dA h)[a - h.1]? = some (a, xe dA e) := by
  obtain ⟨h1, h2⟩ := xat_at hx
  rw [xwsA_get, h2]
  show some (h.1 + (a - h.1), xe dA e) = _
  rw [show h.1 + (a - h.1) = a by omega]
theorem xat_lt {h : xH} {a : Nat} {e : va_E} (hx : xat h a = some e) : a < xn h := by
  obtain ⟨h1, h2⟩ := xat_at hx
  have := (List.getElem?_eq_some_iff.mp h2).1
  unfold xn
  omega
theorem xws_D (dA : Nat → ClassId) (h : xH) : va_D (fun q => h.1 ≤ q) (xws dA h) := by
  have key : ∀ (k : Nat) (q : Nat × va_E), (xws dA h)[k]? = some q → q.1 = h.1 + k := by
    intro k q hq
    rw [xwsA_get] at hq
    obtain ⟨e, -, h2⟩ := Option.map_eq_some_iff.mp hq
    rw [← h2]
  refine ⟨fun i j x y hx hy hxy => ?_, fun k q hq => ?_⟩
  · have h1 := key i x hx
    have h2 := key j y hy
    omega
  · show h.1 ≤ q.1
    rw [key k q hq]
    omega
theorem xws_set (dA : Nat → ClassId) {h : xH} {a : Nat} (e : va_E) (ha : h.1 ≤ a) : (xws dA h).set (a - h.1) (a, xe dA e) = xws dA (xset h a e) := by
  have h1 := xwsA_set dA e h.2.2 h.1 (a - h.1)
  rw [show h.1 + (a - h.1) = a by omega] at h1
  exact h1
theorem xws_push (dA : Nat → ClassId) (h : xH) (k : Nat) (e : va_E) : xws dA h ++ [(xn h, xe dA e)] = xws dA (xpush h k e) := xwsA_push dA e h.2.2 h.1
theorem xws_fresh {dA : Nat → ClassId} {h : xH} {q : Nat} {e : va_E} {A : Nat → Prop} (hD : va_D A (xws dA h ++ [(q, e)])) (hq : h.1 ≤ q) : xn h ≤ q := by
  rcases Nat.lt_or_ge q (xn h) with hl | hl
  · exfalso
    have hlen : (xws dA h).length = h.2.2.length := by
      have : ∀ (hs : List va_E) (n : Nat), (xwsA dA n hs).length = hs.length := by
        intro hs
        induction hs with
        | nil => intro n; rfl
        | cons e t ih => intro n; simp [xwsA, ih]
      exact this _ _
    unfold xn at hl
    have hlt : q - h.1 < h.2.2.length := by omega
    have h1 : (xws dA h ++ [(q, e)])[q - h.1]? = some (q, xe dA (h.2.2[q - h.1])) := by
      rw [List.getElem?_append_left (by rw [hlen]; exact hlt), xwsA_get, List.getElem?_eq_getElem hlt]
      show some (h.1 + (q - h.1), _) = _
      rw [show h.1 + (q - h.1) = q by omega]
    have h2 : (xws dA h ++ [(q, e)])[h.2.2.length]? = some (q, e) := by
      rw [List.getElem?_append_right (by rw [hlen]; exact Nat.le_refl _), hlen, Nat.sub_self]
      rfl
    have := hD.1 _ _ _ _ h1 h2 rfl
    omega
  · exact hl
theorem xP_one {D : va_G} {cl : List vw_C} {q : Nat × va_E} {H : Heap} (h : va_at D cl q H) : va_P D cl [q] H := by
  intro k x hx
  have hz : k < 1 := (List.getElem?_eq_some_iff.mp hx).1
  rw [show k = 0 by omega] at hx
  cases hx
  exact h
/-- what the tables say, and what lies below the first address -/
def xk (z : xzs) (D : va_G) (dA : Nat → ClassId) (b : Nat) (U : State) : Prop := va_K D vwCl [] U ∧ (∀ (k : Nat) (ty : FieldType), xaty[k]? = some ty → ArrOfT U (dA k) ty ∧ va_RA U (dA k) ty) ∧ (∀ (k : Nat) (C : String), xatC k = some C → va_AO C U) ∧ xz z b U
theorem xk.moved {z : xzs} {D : va_G} {dA : Nat → ClassId} {b : Nat} {u U : State} (hvm : u.vm.Alike U.vm) (hh : ∀ q : Nat, q < b → U.heap[q]? = u.heap[q]?) (h : xk z D dA b u) : xk z D dA b U :=
  ⟨h.1.moved hvm, fun k ty hk => ⟨arrOfT_moved hvm (h.2.1 k ty hk).1, (h.2.1 k ty hk).2.moved hvm⟩, fun k C hk => (h.2.2.1 k C hk).moved hvm, xz_moved hvm hh h.2.2.2⟩
theorem xk.arr {z : xzs} {D : va_G} {dA : Nat → ClassId} {b : Nat} {U : State} (h : xk z D dA b U) {k : Nat} {ty : FieldType} (hk : xaty[k]? = some ty) : va_K D vwCl [(dA k, ty)] U :=
  ⟨h.1.1, fun j q hj => by
    have hz : j < 1 := (List.getElem?_eq_some_iff.mp hj).1
    rw [show j = 0 by omega] at hj
    cases hj
    exact h.2.1 k ty hk⟩
-- contracts
def MetT (l : Launch) (y : MethodName) (ws : List Cond) (rm : Room) (Pc : Array Value → State → Prop) (Qc : Array Value → State → Outcome → State → Prop) (mc ms : Nat) (free : Addr → Prop) : Prop :=
  MetFree l y (headSpec ws rm) Pc (fun _ _ _ _ _ => True) (fun a st o t => Qc a st o t ∧ ∃ L, (st.WarmedH t.vm ∧ st.sameButNew ({ t with vm := st.vm } : State) L mc ms) ∧ ∀ q ∈ L, free q.base)
def MQT (below : List Frame) (Qc : Array Value → State → Outcome → State → Prop) (a : Array Value) (s : State) (mc ms : Nat) (free : Addr → Prop) : State → Prop := fun t =>
  ∃ o, t.status = .running ∧ Ended t below o ∧ Qc a s o t ∧ ∃ L, (s.WarmedH t.vm ∧ s.sameButNew ({ t with vm := s.vm } : State) L mc ms) ∧ ∀ q ∈ L, free q.base
theorem MetT.ofW {l : Launch} {y : MethodName} {ws ws' : List Cond} {rm : Room} {Pc : Array Value → State → Prop} {Qc : Array Value → State → Outcome → State → Prop} {mc ms : Nat} {free : Addr → Prop} {cc : ByteArray} {maxL : Nat} {ret : Option FieldType}
    (hy : plainName y.cls = true) (hw : ws = Cond.code y cc maxL ret :: ws')
    (body : ∀ p e s m args below meth c s₁, BodyLoose p l y (headSpec ws rm) cc maxL ret e s m args below meth c s₁ → c.maxLocals = maxL → Pc args s →
      W p l e (headSpec ws rm).room s m args below meth c s.heap [] 0 0 (MQT below Qc args s mc ms free) (entryFrame m args maxL)) : MetT l y ws rm Pc Qc mc ms free := by
  refine MetFree.of_bodyS (code := cc) (maxLocals := maxL) (ret := ret) hy ?_ ?_
  · intro args s m h hn
    obtain ⟨meth, c, h1, h2, h3, h4, h5, h6, -, -⟩ := Cond.code_spec hn (atoms_spec (ws := ws) h _ (by rw [hw]; exact List.mem_cons_self))
    exact ⟨meth, c, h1, h2, h3, h4, h5, h6⟩
  · intro p e s m args below meth c s₁ B hml hP _
    have hh0 : s₁.heap = s.heap := by rw [B.state]; rfl
    obtain ⟨t, a1, o, b1, b2, b3⟩ := body p e s m args below meth c s₁ B hml hP s₁ hh0 (Stand.of_body B)
    exact ⟨t, o, a1, b1, b2, ⟨b3.1, b3.2⟩⟩
def xRm (rF rL : Nat) (h h' : xH) : Room := { frames := rF, cells := xn h' - xn h, slots := h'.2.1 - h.2.1, locals := rL }
def xPc (z : xzs) (D : va_G) (dA : Nat → ClassId) (as : List Value) (h : xH) : Array Value → State → Prop := va_Pc as (fun U => (U.heap.size = xn h ∧ va_P D vwCl (xws dA h) U.heap) ∧ xk z D dA h.1 U)
def xOc (o : xO) (oc : Outcome) : Prop := match o with
  | .inl v => oc = .returned v
  | .inr a => oc = .threw a
def xQc (D : va_G) (dA : Nat → ClassId) (h : xH) (r : xR) : Array Value → State → Outcome → State → Prop := fun _ st oc t => xOc r.1 oc ∧ va_P D vwCl (xws dA r.2) t.heap ∧ va_F (fun q => h.1 ≤ q) st t
def xMono (h h' : xH) : Prop := h'.1 = h.1 ∧ h.2.2.length ≤ h'.2.2.length ∧ h.2.1 ≤ h'.2.1
theorem xMono.rfl' (h : xH) : xMono h h := ⟨rfl, Nat.le_refl _, Nat.le_refl _⟩
theorem xMono.trans {h h' h'' : xH} (a : xMono h h') (b : xMono h' h'') : xMono h h'' := ⟨b.1.trans a.1, Nat.le_trans a.2.1 b.2.1, Nat.le_trans a.2.2 b.2.2⟩
theorem xMono.n {h h' : xH} (a : xMono h h') : xn h ≤ xn h' := by
  have := a.1
  have := a.2.1
  unfold xn
  omega
/-- a method does what a function says -/
def xCt (z : xzs) (l : Launch) (y : MethodName) (w : List Cond) (rF rL : Nat) (f : xF) : Prop := ∀ (as : List Value) (h : xH) (r : xR), f as h = some r → xMono h r.2 ∧ ∀ (D : va_G) (dA : Nat → ClassId),
  (∀ v, r.1 = .inl v → Met l y w (xRm rF rL h r.2) (xPc z D dA as h) (xQc D dA h r) (xn r.2 - xn h) (r.2.2.1 - h.2.1) (fun q => h.1 ≤ q)) ∧
  (∀ a, r.1 = .inr a → MetT l y w (xRm rF rL h r.2) (xPc z D dA as h) (xQc D dA h r) (xn r.2 - xn h) (r.2.2.1 - h.2.1) (fun q => h.1 ≤ q))
theorem xPc_blind {z : xzs} {D : va_G} {dA : Nat → ClassId} {as : List Value} {h : xH} : FrameBlind (xPc z D dA as h) := fun a U g mk q => by
  obtain ⟨q0, q1, q2⟩ := q
  exact ⟨q0, q1, xk.moved (u := U) (U := U.calling g mk a) (Vm.Alike.refl U.vm) (fun _ _ => rfl) q2⟩
