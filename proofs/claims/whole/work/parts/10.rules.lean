/-! RULES: a body of reads, writes, calls and cases is what the abstract machine does, instruction by instruction. 'xle b a': where b comes to an end, a comes to the same. -/
section XU
def xle (a b : Option xR) : Prop := ∀ r : xR, a = some r → b = some r
theorem xle.rf {a : Option xR} : xle a a := fun _ h => h
def rdI (h : xH) (a ci k : Nat) : Option Int32 := (xrd h a ci k).bind xiv
def rdR (h : xH) (a ci k : Nat) : Option (Option Nat) := (xrd h a ci k).bind xrv
def xcase {α : Type} (r : Option Nat) (n : α) (s : Nat → α) : α := match r with
  | none => n
  | some a => s a
/-- calls: of nothing, of an int, of a reference -/
def xclV (o : Option xR) (k : xH → Option xR) : Option xR := o.bind fun r => match r.1 with
  | .inl none => k r.2
  | .inl (some _) => none
  | .inr a => some (.inr a, r.2)
def xclC (o : Option xR) (k : xH → Option xR) : Option xR := o.bind fun r => match r.1 with
  | .inl none => k r.2
  | .inl (some _) => none
  | .inr _ => none
def xclI (o : Option xR) (k : Int32 → xH → Option xR) : Option xR := o.bind fun r => match r.1 with
  | .inl none => none
  | .inl (some v) => (xiv v).bind fun x => k x r.2
  | .inr a => some (.inr a, r.2)
def xclR (o : Option xR) (k : Option Nat → xH → Option xR) : Option xR := o.bind fun r => match r.1 with
  | .inl none => none
  | .inl (some v) => (xrv v).bind fun x => k x r.2
  | .inr a => some (.inr a, r.2)
variable {K : xK} {pc q idx : Nat} {i : xI} {L : xL} {st t : List Value} {h : xH} {b b1 b2 : Option xR}
theorem xle_step {y : xX ⊕ xR} (hc : xcd K pc = some i) (hm : xmask (xmk K pc) L = L) (hs : xsem K i pc L st h = some y) (k : xle b (Sum.elim (xev K) some y)) : xle b (xev K (pc, L, st, h)) := by
  intro r hr
  rw [xev_step]
  have : xstep K (pc, L, st, h) = some y := by
    unfold xstep
    rw [show xcd K (pc, L, st, h).1 = some i from hc]
    show xsem K i pc (xmask (xmk K pc) L) st h = some y
    rw [hm]
    exact hs
  rw [this]
  exact k r hr
theorem xle_next {x' : xX} (hc : xcd K pc = some i) (hm : xmask (xmk K pc) L = L) (hs : xsem K i pc L st h = some (.inl x')) (k : xle b (xev K x')) : xle b (xev K (pc, L, st, h)) := xle_step hc hm hs k
theorem xle_end {o : xO} (hc : xcd K pc = some i) (hm : xmask (xmk K pc) L = L) (hs : xsem K i pc L st h = some (.inr (o, h))) : xle (some (o, h)) (xev K (pc, L, st, h)) := xle_step hc hm hs xle.rf
/-- a block's head: the dead variables are let go -/
theorem xle_jump {L' : xL} (hm : xmask (xmk K pc) L = xmask (xmk K pc) L') : xle (xev K (pc, L', st, h)) (xev K (pc, L, st, h)) := by
  intro r hr
  rw [xev_step] at hr ⊢
  have : xstep K (pc, L, st, h) = xstep K (pc, L', st, h) := by
    show (xcd K pc).bind (fun i => xsem K i pc (xmask (xmk K pc) L) st h) = (xcd K pc).bind (fun i => xsem K i pc (xmask (xmk K pc) L') st h)
    rw [hm]
  rw [this]
  exact hr
/-- a known reference: the state by it -/
theorem xle_some {r : Option Nat} {bb : Nat → Option xR} (x : Option Nat → xX) (k : ∀ a, xle (bb a) (xev K (x (some a)))) : xle (r.bind bb) (xev K (x r)) := by
  cases r with
  | none => intro r hr; cases hr
  | some a => exact k a
theorem xle_case {r : Option Nat} {bb : Nat → Option xR} (x : Option Nat → xX) (k1 : xle b1 (xev K (x none))) (k : ∀ a, xle (bb a) (xev K (x (some a)))) : xle (xcase r b1 bb) (xev K (x r)) := by
  cases r with
  | none => exact k1
  | some a => exact k a
theorem xle_ite {P : Prop} [Decidable P] {x : xX} (k1 : P → xle b1 (xev K x)) (k2 : ¬ P → xle b2 (xev K x)) : xle (if P then b1 else b2) (xev K x) := by
  split
  · rename_i z; exact k1 z
  · rename_i z; exact k2 z
theorem xsem_mem (hk : xkd i = 4) : xsem K i pc L st h = xmem K i pc L st h := by
  unfold xsem
  rw [if_neg (by rw [hk]; decide), if_neg (by rw [hk]; decide), if_neg (by rw [hk]; decide), if_pos hk]
theorem xsem_calls (hk : xkd i = 5) : xsem K i pc L st h = xcalls K i pc L st h := by
  unfold xsem
  rw [if_neg (by rw [hk]; decide), if_neg (by rw [hk]; decide), if_neg (by rw [hk]; decide), if_neg (by rw [hk]; decide), if_pos hk]
theorem xsem_branch (hk : xkd i = 3) : xsem K i pc L st h = xbranch i pc L st h := by
  unfold xsem
  rw [if_neg (by rw [hk]; decide), if_neg (by rw [hk]; decide), if_pos hk]
theorem xle_getI {a : Nat} {f : Nat × Nat × FieldType × Nat} {bb : Int32 → Option xR} (hc : xcd K pc = some (.getfield idx)) (hm : xmask (xmk K pc) L = L) (hf : xfl K idx = some f) (k : ∀ x, xle (bb x) (xev K (pc + 3, L, .int x :: t, h))) : xle ((rdI h a f.1 f.2.1).bind bb) (xev K (pc, L, .ref a :: t, h)) := by
  intro r hr
  obtain ⟨x, h1, h2⟩ := Option.bind_eq_some_iff.mp hr
  obtain ⟨v, h3, h4⟩ := Option.bind_eq_some_iff.mp h1
  have e1 := xiv_some h4
  subst e1
  refine xle_next (x' := (pc + 3, L, .int x :: t, h)) hc hm ?_ (k x) r h2
  rw [xsem_mem rfl]
  show (xfl K idx).bind _ = _
  rw [hf]
  show (xrd h a f.1 f.2.1).bind _ = _
  rw [h3]
  rfl
theorem xle_getR {a : Nat} {f : Nat × Nat × FieldType × Nat} {bb : Option Nat → Option xR} (hc : xcd K pc = some (.getfield idx)) (hm : xmask (xmk K pc) L = L) (hf : xfl K idx = some f) (k : ∀ x, xle (bb x) (xev K (pc + 3, L, va_rf x :: t, h))) : xle ((rdR h a f.1 f.2.1).bind bb) (xev K (pc, L, .ref a :: t, h)) := by
  intro r hr
  obtain ⟨x, h1, h2⟩ := Option.bind_eq_some_iff.mp hr
  obtain ⟨v, h3, h4⟩ := Option.bind_eq_some_iff.mp h1
  have e1 := xrv_some h4
  subst e1
  refine xle_next (x' := (pc + 3, L, va_rf x :: t, h)) hc hm ?_ (k x) r h2
  rw [xsem_mem rfl]
  show (xfl K idx).bind _ = _
  rw [hf]
  show (xrd h a f.1 f.2.1).bind _ = _
  rw [h3]
  rfl
theorem xle_put {a : Nat} {v : Value} {f : Nat × Nat × FieldType × Nat} {bb : xH → Option xR} (hc : xcd K pc = some (.putfield idx)) (hm : xmask (xmk K pc) L = L) (hf : xfl K idx = some f) (hv : ¬ f.2.2.2 = 0 ∧ narrow f.2.2.1 v = v ∧ fits f.2.2.1 v = true) (k : ∀ h', xle (bb h') (xev K (pc + 3, L, t, h'))) : xle ((xwr h a f.1 f.2.1 v).bind bb) (xev K (pc, L, v :: .ref a :: t, h)) := by
  intro r hr
  obtain ⟨h', h1, h2⟩ := Option.bind_eq_some_iff.mp hr
  refine xle_next (x' := (pc + 3, L, t, h')) hc hm ?_ (k h') r h2
  rw [xsem_mem rfl]
  show (xfl K idx).bind _ = _
  rw [hf]
  show (if ¬ f.2.2.2 = 0 ∧ narrow f.2.2.1 v = v ∧ fits f.2.2.1 v = true then _ else _) = _
  rw [if_pos hv]
  show (xwr h a f.1 f.2.1 v).bind _ = _
  rw [h1]
  rfl
-- arrays
def xalen (h : xH) (a : Nat) : Option Nat := (xat h a).bind fun e => (xaln e).bind fun q => some q.2
def rdA (kd : Nat) (h : xH) (a : Nat) (i : Int32) : Option Int32 := (xat h a).bind fun e => (xai kd e).bind fun q => (xix i q.1).bind fun j => some (q.2 j)
def rdQ (h : xH) (a : Nat) (i : Int32) : Option (Option Nat) := (xat h a).bind fun e => (xaq e).bind fun q => (xix i q.2.1).bind fun j => some (q.2.2 j)
def wrI (h : xH) (a : Nat) (i x : Int32) : Option xH := (xat h a).bind fun e => (xai 0 e).bind fun q => (xix i q.1).bind fun j => some (xset h a (.inl (0, q.1, .inl (upd q.2 j x))))
def wrZ (h : xH) (a : Nat) (i x : Int32) : Option xH := (xat h a).bind fun e => (xai 1 e).bind fun q => (xix i q.1).bind fun j => some (xset h a (.inl (1, q.1, .inl (upd q.2 j (vp_nar .boolean x)))))
def xelm (h : xH) (kd : Nat) (r : Option Nat) : Option Unit := match r with
  | none => some ()
  | some y => (xat h y).bind fun ey => (xcls ey).bind fun ci => if (vwCl[ci]?).map (fun r => r.1) = xatC kd then some () else none
def wrQ (h : xH) (a : Nat) (i : Int32) (r : Option Nat) : Option xH := (xat h a).bind fun e => (xaq e).bind fun q => (xix i q.2.1).bind fun j => (xelm h q.1 r).bind fun _ => some (xset h a (.inl (q.1, q.2.1, .inr (.inr (.inr (.inr (va_up q.2.2 j r)))))))
def xcst (h : xH) (ci : Nat) (r : Option Nat) : Option Unit := match r with
  | none => some ()
  | some y => (xat h y).bind fun ey => (xob ci ey).bind fun _ => some ()
def xisO (h : xH) (b ci : Nat) : Option Unit := (xat h b).bind fun e => (xob ci e).bind fun _ => some ()
theorem xle_alen {a : Nat} {bb : Nat → Option xR} (hc : xcd K pc = some .arraylength) (hm : xmask (xmk K pc) L = L) (k : ∀ n, xle (bb n) (xev K (pc + 1, L, .int (Int32.ofNat n) :: t, h))) : xle ((xalen h a).bind bb) (xev K (pc, L, .ref a :: t, h)) := by
  intro r hr
  obtain ⟨n, h1, h2⟩ := Option.bind_eq_some_iff.mp hr
  obtain ⟨e, h3, h4⟩ := Option.bind_eq_some_iff.mp h1
  obtain ⟨q, h5, h6⟩ := Option.bind_eq_some_iff.mp h4
  cases h6
  refine xle_next (x' := (pc + 1, L, .int (Int32.ofNat q.2) :: t, h)) hc hm ?_ (k q.2) r h2
  rw [xsem_mem rfl]
  show (xat h a).bind _ = _
  rw [h3]
  show (xaln e).bind _ = _
  rw [h5]
  rfl
theorem xle_iald {a : Nat} {i : Int32} {bb : Int32 → Option xR} (hc : xcd K pc = some .iaload) (hm : xmask (xmk K pc) L = L) (k : ∀ x, xle (bb x) (xev K (pc + 1, L, .int x :: t, h))) : xle ((rdA 0 h a i).bind bb) (xev K (pc, L, .int i :: .ref a :: t, h)) := by
  intro r hr
  obtain ⟨n, h1, h2⟩ := Option.bind_eq_some_iff.mp hr
  obtain ⟨e, h3, h4⟩ := Option.bind_eq_some_iff.mp h1
  obtain ⟨q, h5, h6⟩ := Option.bind_eq_some_iff.mp h4
  obtain ⟨j, h7, h8⟩ := Option.bind_eq_some_iff.mp h6
  cases h8
  refine xle_next (x' := (pc + 1, L, .int (q.2 j) :: t, h)) hc hm ?_ (k _) r h2
  rw [xsem_mem rfl]
  show (xat h a).bind _ = _
  rw [h3]
  show (xai 0 e).bind _ = _
  rw [h5]
  show (xix i q.1).bind _ = _
  rw [h7]
  rfl
theorem xle_bald {a : Nat} {i : Int32} {bb : Int32 → Option xR} (hc : xcd K pc = some .baload) (hm : xmask (xmk K pc) L = L) (k : ∀ x, xle (bb x) (xev K (pc + 1, L, .int x :: t, h))) : xle ((rdA 1 h a i).bind bb) (xev K (pc, L, .int i :: .ref a :: t, h)) := by
  intro r hr
  obtain ⟨n, h1, h2⟩ := Option.bind_eq_some_iff.mp hr
  obtain ⟨e, h3, h4⟩ := Option.bind_eq_some_iff.mp h1
  obtain ⟨q, h5, h6⟩ := Option.bind_eq_some_iff.mp h4
  obtain ⟨j, h7, h8⟩ := Option.bind_eq_some_iff.mp h6
  cases h8
  refine xle_next (x' := (pc + 1, L, .int (q.2 j) :: t, h)) hc hm ?_ (k _) r h2
  rw [xsem_mem rfl]
  show (xat h a).bind _ = _
  rw [h3]
  show (xai 1 e).bind _ = _
  rw [h5]
  show (xix i q.1).bind _ = _
  rw [h7]
  rfl
theorem xle_aald {a : Nat} {i : Int32} {bb : Option Nat → Option xR} (hc : xcd K pc = some .aaload) (hm : xmask (xmk K pc) L = L) (k : ∀ x, xle (bb x) (xev K (pc + 1, L, va_rf x :: t, h))) : xle ((rdQ h a i).bind bb) (xev K (pc, L, .int i :: .ref a :: t, h)) := by
  intro r hr
  obtain ⟨n, h1, h2⟩ := Option.bind_eq_some_iff.mp hr
  obtain ⟨e, h3, h4⟩ := Option.bind_eq_some_iff.mp h1
  obtain ⟨q, h5, h6⟩ := Option.bind_eq_some_iff.mp h4
  obtain ⟨j, h7, h8⟩ := Option.bind_eq_some_iff.mp h6
  cases h8
  refine xle_next (x' := (pc + 1, L, va_rf (q.2.2 j) :: t, h)) hc hm ?_ (k _) r h2
  rw [xsem_mem rfl]
  show (xat h a).bind _ = _
  rw [h3]
  show (xaq e).bind _ = _
  rw [h5]
  show (xix i q.2.1).bind _ = _
  rw [h7]
  rfl
theorem xle_iast {a : Nat} {i x : Int32} {bb : xH → Option xR} (hc : xcd K pc = some .iastore) (hm : xmask (xmk K pc) L = L) (k : ∀ h', xle (bb h') (xev K (pc + 1, L, t, h'))) : xle ((wrI h a i x).bind bb) (xev K (pc, L, .int x :: .int i :: .ref a :: t, h)) := by
  intro r hr
  obtain ⟨n, h1, h2⟩ := Option.bind_eq_some_iff.mp hr
  obtain ⟨e, h3, h4⟩ := Option.bind_eq_some_iff.mp h1
  obtain ⟨q, h5, h6⟩ := Option.bind_eq_some_iff.mp h4
  obtain ⟨j, h7, h8⟩ := Option.bind_eq_some_iff.mp h6
  cases h8
  refine xle_next (x' := (pc + 1, L, t, _)) hc hm ?_ (k _) r h2
  rw [xsem_mem rfl]
  show (xat h a).bind _ = _
  rw [h3]
  show (xai 0 e).bind _ = _
  rw [h5]
  show (xix i q.1).bind _ = _
  rw [h7]
  rfl
theorem xle_bast {a : Nat} {i x : Int32} {bb : xH → Option xR} (hc : xcd K pc = some .bastore) (hm : xmask (xmk K pc) L = L) (k : ∀ h', xle (bb h') (xev K (pc + 1, L, t, h'))) : xle ((wrZ h a i x).bind bb) (xev K (pc, L, .int x :: .int i :: .ref a :: t, h)) := by
  intro r hr
  obtain ⟨n, h1, h2⟩ := Option.bind_eq_some_iff.mp hr
  obtain ⟨e, h3, h4⟩ := Option.bind_eq_some_iff.mp h1
  obtain ⟨q, h5, h6⟩ := Option.bind_eq_some_iff.mp h4
  obtain ⟨j, h7, h8⟩ := Option.bind_eq_some_iff.mp h6
  cases h8
  refine xle_next (x' := (pc + 1, L, t, _)) hc hm ?_ (k _) r h2
  rw [xsem_mem rfl]
  show (xat h a).bind _ = _
  rw [h3]
  show (xai 1 e).bind _ = _
  rw [h5]
  show (xix i q.1).bind _ = _
  rw [h7]
  rfl
theorem xle_aast {a : Nat} {i : Int32} {y : Option Nat} {bb : xH → Option xR} (hc : xcd K pc = some .aastore) (hm : xmask (xmk K pc) L = L) (k : ∀ h', xle (bb h') (xev K (pc + 1, L, t, h'))) : xle ((wrQ h a i y).bind bb) (xev K (pc, L, va_rf y :: .int i :: .ref a :: t, h)) := by
  intro r hr
  obtain ⟨n, h1, h2⟩ := Option.bind_eq_some_iff.mp hr
  obtain ⟨e, h3, h4⟩ := Option.bind_eq_some_iff.mp h1
  obtain ⟨q, h5, h6⟩ := Option.bind_eq_some_iff.mp h4
  obtain ⟨j, h7, h8⟩ := Option.bind_eq_some_iff.mp h6
  obtain ⟨u, h9, h10⟩ := Option.bind_eq_some_iff.mp h8
  cases h10
  refine xle_next (x' := (pc + 1, L, t, _)) hc hm ?_ (k _) r h2
  rw [xsem_mem rfl]
  cases y with
  | none =>
    show (xat h a).bind _ = _
    rw [h3]
    show (xaq e).bind _ = _
    rw [h5]
    show (xix i q.2.1).bind _ = _
    rw [h7]
    rfl
  | some y =>
    obtain ⟨ey, g1, g2⟩ := Option.bind_eq_some_iff.mp h9
    obtain ⟨ci, g3, g4⟩ := Option.bind_eq_some_iff.mp g2
    split at g4
    · rename_i hcl
      show (xat h a).bind _ = _
      rw [h3]
      show (xaq e).bind _ = _
      rw [h5]
      show (xix i q.2.1).bind _ = _
      rw [h7]
      show (xat h y).bind _ = _
      rw [g1]
      show (xcls ey).bind _ = _
      rw [g3]
      show (if (vwCl[ci]?).map (fun r => r.1) = xatC q.1 then _ else _) = _
      rw [if_pos hcl]
    · cases g4
theorem xle_cast {ci : Nat} {y : Option Nat} (hc : xcd K pc = some (.checkcast idx)) (hm : xmask (xmk K pc) L = L) (hci : xcc K idx = some ci) (k : xle b (xev K (pc + 3, L, va_rf y :: t, h))) : xle ((xcst h ci y).bind fun _ => b) (xev K (pc, L, va_rf y :: t, h)) := by
  intro r hr
  obtain ⟨u, h1, h2⟩ := Option.bind_eq_some_iff.mp hr
  refine xle_next (x' := (pc + 3, L, va_rf y :: t, h)) hc hm ?_ k r h2
  rw [xsem_mem rfl]
  cases y with
  | none => rfl
  | some y =>
    obtain ⟨ey, g1, g2⟩ := Option.bind_eq_some_iff.mp h1
    obtain ⟨fs, g3, -⟩ := Option.bind_eq_some_iff.mp g2
    show (xcc K idx).bind _ = _
    rw [hci]
    show (xat h y).bind _ = _
    rw [g1]
    show (xob ci ey).bind _ = _
    rw [g3]
    rfl
-- branches
theorem xc_eq {x y : Int32} : xcnd .eq x y = true ↔ x = y := decide_eq_true_iff
theorem xc_ne {x y : Int32} : xcnd .ne x y = true ↔ ¬ x = y := decide_eq_true_iff
theorem xc_lt {x y : Int32} : xcnd .lt x y = true ↔ x < y := decide_eq_true_iff
theorem xc_ge {x y : Int32} : xcnd .ge x y = true ↔ y ≤ x := decide_eq_true_iff
theorem xc_gt {x y : Int32} : xcnd .gt x y = true ↔ y < x := decide_eq_true_iff
theorem xc_le {x y : Int32} : xcnd .le x y = true ↔ x ≤ y := decide_eq_true_iff
theorem xle_icmp {cd : Jvm.ClassFile.Cond} {off : Int} {x y : Int32} {P : Prop} [Decidable P] (hc : xcd K pc = some (.if_icmp cd off)) (hm : xmask (xmk K pc) L = L) (hq : xjmp pc off = some q) (hP : xcnd cd x y = true ↔ P)
    (k1 : P → xle b1 (xev K (q, L, t, h))) (k2 : ¬ P → xle b2 (xev K (pc + 3, L, t, h))) : xle (if P then b1 else b2) (xev K (pc, L, .int y :: .int x :: t, h)) := by
  intro r hr
  split at hr
  · rename_i z
    refine xle_next (x' := (q, L, t, h)) hc hm ?_ (k1 z) r hr
    rw [xsem_branch rfl]
    show (xjmp pc off).bind _ = _
    rw [hq]
    show (if xcnd cd x y = true then _ else _) = _
    rw [if_pos (hP.mpr z)]
  · rename_i z
    refine xle_next (x' := (pc + 3, L, t, h)) hc hm ?_ (k2 z) r hr
    rw [xsem_branch rfl]
    show (xjmp pc off).bind _ = _
    rw [hq]
    show (if xcnd cd x y = true then _ else _) = _
    rw [if_neg (fun w => z (hP.mp w))]
theorem xle_if {cd : Jvm.ClassFile.Cond} {off : Int} {x : Int32} {P : Prop} [Decidable P] (hc : xcd K pc = some (.ifCond cd off)) (hm : xmask (xmk K pc) L = L) (hq : xjmp pc off = some q) (hP : xcnd cd x 0 = true ↔ P)
    (k1 : P → xle b1 (xev K (q, L, t, h))) (k2 : ¬ P → xle b2 (xev K (pc + 3, L, t, h))) : xle (if P then b1 else b2) (xev K (pc, L, .int x :: t, h)) := by
  intro r hr
  split at hr
  · rename_i z
    refine xle_next (x' := (q, L, t, h)) hc hm ?_ (k1 z) r hr
    rw [xsem_branch rfl]
    show (xjmp pc off).bind _ = _
    rw [hq]
    show (if xcnd cd x 0 = true then _ else _) = _
    rw [if_pos (hP.mpr z)]
  · rename_i z
    refine xle_next (x' := (pc + 3, L, t, h)) hc hm ?_ (k2 z) r hr
    rw [xsem_branch rfl]
    show (xjmp pc off).bind _ = _
    rw [hq]
    show (if xcnd cd x 0 = true then _ else _) = _
    rw [if_neg (fun w => z (hP.mp w))]
theorem xpopr_rf (r : Option Nat) (t : List Value) : xpopr (va_rf r :: t) = some (r, t) := by cases r <;> rfl
theorem xle_aeq {off : Int} {x y : Option Nat} (hc : xcd K pc = some (.if_acmp .eq off)) (hm : xmask (xmk K pc) L = L) (hq : xjmp pc off = some q)
    (k1 : xle b1 (xev K (q, L, t, h))) (k2 : xle b2 (xev K (pc + 3, L, t, h))) : xle (if x = y then b1 else b2) (xev K (pc, L, va_rf y :: va_rf x :: t, h)) := by
  intro r hr
  have e : xsem K (.if_acmp .eq off) pc L (va_rf y :: va_rf x :: t) h = if x = y then some (.inl (q, L, t, h)) else some (.inl (pc + 3, L, t, h)) := by
    rw [xsem_branch rfl]
    show (xjmp pc off).bind _ = _
    rw [hq]
    show (xpopr (va_rf y :: va_rf x :: t)).bind _ = _
    rw [xpopr_rf]
    show (xpopr (va_rf x :: t)).bind _ = _
    rw [xpopr_rf]
    rfl
  split at hr
  · rename_i z
    exact xle_next (x' := (q, L, t, h)) hc hm (by rw [e, if_pos z]) k1 r hr
  · rename_i z
    exact xle_next (x' := (pc + 3, L, t, h)) hc hm (by rw [e, if_neg z]) k2 r hr
theorem xle_ane {off : Int} {x y : Option Nat} (hc : xcd K pc = some (.if_acmp .ne off)) (hm : xmask (xmk K pc) L = L) (hq : xjmp pc off = some q)
    (k1 : xle b1 (xev K (pc + 3, L, t, h))) (k2 : xle b2 (xev K (q, L, t, h))) : xle (if x = y then b1 else b2) (xev K (pc, L, va_rf y :: va_rf x :: t, h)) := by
  intro r hr
  have e : xsem K (.if_acmp .ne off) pc L (va_rf y :: va_rf x :: t) h = if x = y then some (.inl (pc + 3, L, t, h)) else some (.inl (q, L, t, h)) := by
    rw [xsem_branch rfl]
    show (xjmp pc off).bind _ = _
    rw [hq]
    show (xpopr (va_rf y :: va_rf x :: t)).bind _ = _
    rw [xpopr_rf]
    show (xpopr (va_rf x :: t)).bind _ = _
    rw [xpopr_rf]
    rfl
  split at hr
  · rename_i z
    exact xle_next (x' := (pc + 3, L, t, h)) hc hm (by rw [e, if_pos z]) k1 r hr
  · rename_i z
    exact xle_next (x' := (q, L, t, h)) hc hm (by rw [e, if_neg z]) k2 r hr
-- calls
theorem xle_clV {fo : Option xR} {bb : xH → Option xR} (hc : xcd K pc = some i) (hm : xmask (xmk K pc) L = L) (hs : xsem K i pc L st h = fo.bind (xback pc L t)) (k : ∀ h', xle (bb h') (xev K (pc + 3, L, t, h'))) : xle (xclV fo bb) (xev K (pc, L, st, h)) := by
  intro r hr
  obtain ⟨⟨o, h'⟩, h1, h2⟩ := Option.bind_eq_some_iff.mp hr
  rw [h1] at hs
  match o, h2, hs with
  | .inl none, h2, hs => exact xle_next (x' := (pc + 3, L, t, h')) hc hm hs (k h') r h2
  | .inl (some v), h2, hs => cases h2
  | .inr a, h2, hs => exact xle_step (y := .inr (.inr a, h')) hc hm hs (fun _ z => z) r h2
theorem xle_clI {fo : Option xR} {bb : Int32 → xH → Option xR} (hc : xcd K pc = some i) (hm : xmask (xmk K pc) L = L) (hs : xsem K i pc L st h = fo.bind (xback pc L t)) (k : ∀ x h', xle (bb x h') (xev K (pc + 3, L, .int x :: t, h'))) : xle (xclI fo bb) (xev K (pc, L, st, h)) := by
  intro r hr
  obtain ⟨⟨o, h'⟩, h1, h2⟩ := Option.bind_eq_some_iff.mp hr
  rw [h1] at hs
  match o, h2, hs with
  | .inl none, h2, hs => cases h2
  | .inl (some v), h2, hs =>
    obtain ⟨x, h3, h4⟩ := Option.bind_eq_some_iff.mp h2
    have e := xiv_some h3
    subst e
    exact xle_next (x' := (pc + 3, L, .int x :: t, h')) hc hm hs (k x h') r h4
  | .inr a, h2, hs => exact xle_step (y := .inr (.inr a, h')) hc hm hs (fun _ z => z) r h2
theorem xle_clR {fo : Option xR} {bb : Option Nat → xH → Option xR} (hc : xcd K pc = some i) (hm : xmask (xmk K pc) L = L) (hs : xsem K i pc L st h = fo.bind (xback pc L t)) (k : ∀ x h', xle (bb x h') (xev K (pc + 3, L, va_rf x :: t, h'))) : xle (xclR fo bb) (xev K (pc, L, st, h)) := by
  intro r hr
  obtain ⟨⟨o, h'⟩, h1, h2⟩ := Option.bind_eq_some_iff.mp hr
  rw [h1] at hs
  match o, h2, hs with
  | .inl none, h2, hs => cases h2
  | .inl (some v), h2, hs =>
    obtain ⟨x, h3, h4⟩ := Option.bind_eq_some_iff.mp h2
    have e := xrv_some h3
    subst e
    exact xle_next (x' := (pc + 3, L, va_rf x :: t, h')) hc hm hs (k x h') r h4
  | .inr a, h2, hs => exact xle_step (y := .inr (.inr a, h')) hc hm hs (fun _ z => z) r h2
/-- a call of a receiver: it is of its class -/
theorem xle_isO {bq ci : Nat} {fo : xS} (hc : xcd K pc = some i) (hm : xmask (xmk K pc) L = L) (hs : xsem K i pc L st h = (xat h bq).bind fun e => (xob ci e).bind fun _ => fo) (k : xsem K i pc L st h = fo → xle b (xev K (pc, L, st, h))) : xle ((xisO h bq ci).bind fun _ => b) (xev K (pc, L, st, h)) := by
  intro r hr
  obtain ⟨u, h1, h2⟩ := Option.bind_eq_some_iff.mp hr
  obtain ⟨e, g1, g2⟩ := Option.bind_eq_some_iff.mp h1
  obtain ⟨fs, g3, -⟩ := Option.bind_eq_some_iff.mp g2
  refine k ?_ r h2
  rw [hs, g1]
  show (xob ci e).bind _ = _
  rw [g3]
  rfl
theorem xle_clC {fo : Option xR} {bb : xH → Option xR} (hc : xcd K pc = some i) (hm : xmask (xmk K pc) L = L) (hs : xsem K i pc L st h = fo.bind (xbackI pc L t)) (k : ∀ h', xle (bb h') (xev K (pc + 3, L, t, h'))) : xle (xclC fo bb) (xev K (pc, L, st, h)) := by
  intro r hr
  obtain ⟨⟨o, h'⟩, h1, h2⟩ := Option.bind_eq_some_iff.mp hr
  rw [h1] at hs
  match o, h2, hs with
  | .inl none, h2, hs => exact xle_next (x' := (pc + 3, L, t, h')) hc hm hs (k h') r h2
  | .inl (some v), h2, hs => cases h2
  | .inr a, h2, hs => cases h2
-- references that may be null
theorem xsem_vars (hk : xkd i = 2) : xsem K i pc L st h = xvars i pc L st h := by
  unfold xsem
  rw [if_neg (by rw [hk]; decide), if_pos hk]
theorem xle_aldn {k : Fin 4} {r : Option Nat} (hc : xcd K pc = some (.aload_n k)) (hm : xmask (xmk K pc) L = L) (hl : xld k.val L = some (va_rf r)) (kk : xle b (xev K (pc + 1, L, va_rf r :: st, h))) : xle b (xev K (pc, L, st, h)) := by
  refine xle_next (x' := (pc + 1, L, va_rf r :: st, h)) hc hm ?_ kk
  rw [xsem_vars rfl]
  show (xld k.val L).bind _ = _
  rw [hl]
  show (xrv (va_rf r)).bind _ = _
  rw [xrv_rf]
  rfl
theorem xle_ald {k : Nat} {r : Option Nat} (hc : xcd K pc = some (.aload k)) (hm : xmask (xmk K pc) L = L) (hl : xld k L = some (va_rf r)) (kk : xle b (xev K (pc + 2, L, va_rf r :: st, h))) : xle b (xev K (pc, L, st, h)) := by
  refine xle_next (x' := (pc + 2, L, va_rf r :: st, h)) hc hm ?_ kk
  rw [xsem_vars rfl]
  show (xld k L).bind _ = _
  rw [hl]
  show (xrv (va_rf r)).bind _ = _
  rw [xrv_rf]
  rfl
theorem xle_astn {k : Fin 4} {r : Option Nat} {L' : xL} (hc : xcd K pc = some (.astore_n k)) (hm : xmask (xmk K pc) L = L) (hl : xst k.val (va_rf r) L = L') (kk : xle b (xev K (pc + 1, L', t, h))) : xle b (xev K (pc, L, va_rf r :: t, h)) := by
  refine xle_next (x' := (pc + 1, L', t, h)) hc hm ?_ kk
  rw [xsem_vars rfl]
  show (xpopr (va_rf r :: t)).bind _ = _
  rw [xpopr_rf, ← hl]
  rfl
theorem xle_ast {k : Nat} {r : Option Nat} {L' : xL} (hc : xcd K pc = some (.astore k)) (hm : xmask (xmk K pc) L = L) (hl : xst k (va_rf r) L = L') (kk : xle b (xev K (pc + 2, L', t, h))) : xle b (xev K (pc, L, va_rf r :: t, h)) := by
  refine xle_next (x' := (pc + 2, L', t, h)) hc hm ?_ kk
  rw [xsem_vars rfl]
  show (xpopr (va_rf r :: t)).bind _ = _
  rw [xpopr_rf, ← hl]
  rfl
theorem xle_dupq {r : Option Nat} (hc : xcd K pc = some .dup) (hm : xmask (xmk K pc) L = L) (kk : xle b (xev K (pc + 1, L, va_rf r :: va_rf r :: t, h))) : xle b (xev K (pc, L, va_rf r :: t, h)) := by
  refine xle_next (x' := (pc + 1, L, va_rf r :: va_rf r :: t, h)) hc hm ?_ kk
  cases r <;> rfl
theorem xle_popq {r : Option Nat} (hc : xcd K pc = some .pop) (hm : xmask (xmk K pc) L = L) (kk : xle b (xev K (pc + 1, L, t, h))) : xle b (xev K (pc, L, va_rf r :: t, h)) := by
  refine xle_next (x' := (pc + 1, L, t, h)) hc hm ?_ kk
  cases r <;> rfl
theorem xle_aret {r : Option Nat} {ty : FieldType} (hc : xcd K pc = some .areturn) (hm : xmask (xmk K pc) L = L) (hr : xrt K = some ty) (hty : ty.isReference = true) : xle (some (.inl (some (va_rf r)), h)) (xev K (pc, L, [va_rf r], h)) := by
  refine xle_end hc hm ?_
  rw [xsem_calls rfl]
  show (xpopr [va_rf r]).bind _ = _
  rw [xpopr_rf]
  show (if ([] : List Value) = [] then (if (xrt K).any (fun t => t.isReference) = true then xend (.inl (some (va_rf r))) h else none) else none) = _
  rw [if_pos rfl, hr, if_pos (show (some ty).any (fun t => t.isReference) = true from hty)]
theorem xle_zret {x : Int32} (hc : xcd K pc = some .ireturn) (hm : xmask (xmk K pc) L = L) (hr : xrt K = some .boolean) : xle (if x = 0 ∨ x = 1 then some (.inl (some (.int x)), h) else none) (xev K (pc, L, [.int x], h)) := by
  intro r hr0
  split at hr0
  · rename_i z
    refine xle_end hc hm ?_ r hr0
    rw [xsem_calls rfl]
    show (if ([] : List Value) = [] then (if xrt K = some .int ∨ (xrt K = some .boolean ∧ (x = 0 ∨ x = 1)) then xend (.inl (some (.int x))) h else none) else none) = _
    rw [if_pos rfl, if_pos (Or.inr ⟨hr, z⟩)]
  · cases hr0
theorem xfit_obj (C : String) (r : Option Nat) : narrow (.object C) (va_rf r) = va_rf r ∧ fits (.object C) (va_rf r) = true := by cases r <;> exact ⟨rfl, rfl⟩
theorem xfit_arr (C : FieldType) (r : Option Nat) : narrow (.array C) (va_rf r) = va_rf r ∧ fits (.array C) (va_rf r) = true := by cases r <;> exact ⟨rfl, rfl⟩
-- new cells
def xlet (a : Nat) (h : xH) (k : Nat → xH → Option xR) : Option xR := k a h
theorem xle_new {pc' : Nat} {h' : xH} {bb : Nat → xH → Option xR} (hc : xcd K pc = some i) (hm : xmask (xmk K pc) L = L) (hs : xsem K i pc L st h = some (.inl (pc', L, .ref (xn h) :: t, h'))) (k : ∀ a h1, xle (bb a h1) (xev K (pc', L, .ref a :: t, h1))) : xle (xlet (xn h) h' bb) (xev K (pc, L, st, h)) := xle_next hc hm hs (k _ _)
def xnarI (h : xH) (kd : Nat) (n : Int32) : Option (Nat × xH) := if n < 0 ∨ 100000 < n.toNatClampNeg then none else some (xn h, xpush h n.toNatClampNeg (.inl (kd, n.toNatClampNeg, .inl (fun _ => 0))))
def xnarQ (h : xH) (kd : Nat) (n : Int32) : Option (Nat × xH) := if n < 0 ∨ 100000 < n.toNatClampNeg then none else some (xn h, xpush h n.toNatClampNeg (.inl (kd, n.toNatClampNeg, .inr (.inr (.inr (.inr (fun _ => none)))))))
theorem xle_newI {n : Int32} {bb : Nat → xH → Option xR} (hc : xcd K pc = some (.newarray .int)) (hm : xmask (xmk K pc) L = L) (k : ∀ a h1, xle (bb a h1) (xev K (pc + 2, L, .ref a :: t, h1))) : xle ((xnarI h 0 n).bind fun q => xlet q.1 q.2 bb) (xev K (pc, L, .int n :: t, h)) := by
  intro r hr
  obtain ⟨q, h1, h2⟩ := Option.bind_eq_some_iff.mp hr
  unfold xnarI at h1
  split at h1
  · cases h1
  · rename_i z
    cases h1
    refine xle_next hc hm ?_ (k _ _) r h2
    rw [xsem_mem rfl]
    show (if n < 0 ∨ 100000 < n.toNatClampNeg then none else _) = _
    rw [if_neg z]
theorem xle_newZ {n : Int32} {bb : Nat → xH → Option xR} (hc : xcd K pc = some (.newarray .boolean)) (hm : xmask (xmk K pc) L = L) (k : ∀ a h1, xle (bb a h1) (xev K (pc + 2, L, .ref a :: t, h1))) : xle ((xnarI h 1 n).bind fun q => xlet q.1 q.2 bb) (xev K (pc, L, .int n :: t, h)) := by
  intro r hr
  obtain ⟨q, h1, h2⟩ := Option.bind_eq_some_iff.mp hr
  unfold xnarI at h1
  split at h1
  · cases h1
  · rename_i z
    cases h1
    refine xle_next hc hm ?_ (k _ _) r h2
    rw [xsem_mem rfl]
    show (if n < 0 ∨ 100000 < n.toNatClampNeg then none else _) = _
    rw [if_neg z]
theorem xle_newQ {n : Int32} {kd : Nat} {bb : Nat → xH → Option xR} (hc : xcd K pc = some (.anewarray idx)) (hm : xmask (xmk K pc) L = L) (hk : xan K idx = some kd) (k : ∀ a h1, xle (bb a h1) (xev K (pc + 3, L, .ref a :: t, h1))) : xle ((xnarQ h kd n).bind fun q => xlet q.1 q.2 bb) (xev K (pc, L, .int n :: t, h)) := by
  intro r hr
  obtain ⟨q, h1, h2⟩ := Option.bind_eq_some_iff.mp hr
  unfold xnarQ at h1
  split at h1
  · cases h1
  · rename_i z
    cases h1
    refine xle_next hc hm ?_ (k _ _) r h2
    rw [xsem_mem rfl]
    show (xan K idx).bind _ = _
    rw [hk]
    show (if n < 0 ∨ 100000 < n.toNatClampNeg then none else _) = _
    rw [if_neg z]
-- copies
def xcpy (h : xH) (s : Nat) (sp : Int32) (d : Nat) (dp n : Int32) : Option xH := (xat h s).bind fun es => (xai 0 es).bind fun qs => (xat h d).bind fun ed => (xai 0 ed).bind fun qd =>
  if ¬ sp < 0 ∧ ¬ dp < 0 ∧ ¬ n < 0 ∧ sp.toNatClampNeg + n.toNatClampNeg ≤ qs.1 ∧ dp.toNatClampNeg + n.toNatClampNeg ≤ qd.1 then some (xset h d (.inl (0, qd.1, .inl (va_cpy qs.2 qd.2 sp.toNatClampNeg dp.toNatClampNeg n.toNatClampNeg)))) else none
theorem xle_copy {s d : Nat} {sp dp n : Int32} {c : xC} {bb : xH → Option xR} (hc : xcd K pc = some (.invokestatic idx)) (hm : xmask (xmk K pc) L = L) (hca : xca K idx = some c) (h4 : c.1 = 4) (ht : t.length ≤ 4) (k : ∀ h', xle (bb h') (xev K (pc + 3, L, t, h'))) :
    xle ((xcpy h s sp d dp n).bind bb) (xev K (pc, L, .int n :: .int dp :: .ref d :: .int sp :: .ref s :: t, h)) := by
  intro r hr
  obtain ⟨h', h1, h2⟩ := Option.bind_eq_some_iff.mp hr
  obtain ⟨es, r1, a1⟩ := Option.bind_eq_some_iff.mp h1
  obtain ⟨qs, r2, a2⟩ := Option.bind_eq_some_iff.mp a1
  obtain ⟨ed, r3, a3⟩ := Option.bind_eq_some_iff.mp a2
  obtain ⟨qd, r4, a4⟩ := Option.bind_eq_some_iff.mp a3
  split at a4
  · rename_i z
    cases a4
    refine xle_next hc hm ?_ (k _) r h2
    rw [xsem_calls rfl]
    show (xca K idx).bind _ = _
    rw [hca]
    show (if c.1 = 4 then xcopy pc L _ h else _) = _
    rw [if_pos h4]
    show (xat h s).bind _ = _
    rw [r1]
    show (xai 0 es).bind _ = _
    rw [r2]
    show (xat h d).bind _ = _
    rw [r3]
    show (xai 0 ed).bind _ = _
    rw [r4]
    show (if ¬ sp < 0 ∧ ¬ dp < 0 ∧ ¬ n < 0 ∧ sp.toNatClampNeg + n.toNatClampNeg ≤ qs.1 ∧ dp.toNatClampNeg + n.toNatClampNeg ≤ qd.1 ∧ t.length ≤ 4 then _ else _) = _
    rw [if_pos ⟨z.1, z.2.1, z.2.2.1, z.2.2.2.1, z.2.2.2.2, ht⟩]
  · cases a4
-- switches
theorem xle_tsw {d lo hi off : Int} {offs : Array Int} {x : Int32} (hc : xcd K pc = some (.tableswitch d lo hi offs)) (hm : xmask (xmk K pc) L = L) (h1 : ¬ (x.toInt < lo ∨ hi < x.toInt)) (ho : offs[(x.toInt - lo).toNat]? = some off) (hq : xjmp pc off = some q) (k : xle b (xev K (q, L, t, h))) : xle b (xev K (pc, L, .int x :: t, h)) := by
  refine xle_next (x' := (q, L, t, h)) hc hm ?_ k
  rw [xsem_branch rfl]
  show (if x.toInt < lo ∨ hi < x.toInt then _ else _) = _
  rw [if_neg h1]
  show (offs[(x.toInt - lo).toNat]?).bind _ = _
  rw [ho]
  show (xjmp pc off).bind _ = _
  rw [hq]
  rfl
theorem xle_tsd {d lo hi : Int} {offs : Array Int} {x : Int32} (hc : xcd K pc = some (.tableswitch d lo hi offs)) (hm : xmask (xmk K pc) L = L) (h1 : x.toInt < lo ∨ hi < x.toInt) (hq : xjmp pc d = some q) (k : xle b (xev K (q, L, t, h))) : xle b (xev K (pc, L, .int x :: t, h)) := by
  refine xle_next (x' := (q, L, t, h)) hc hm ?_ k
  rw [xsem_branch rfl]
  show (if x.toInt < lo ∨ hi < x.toInt then _ else _) = _
  rw [if_pos h1]
  show (xjmp pc d).bind _ = _
  rw [hq]
  rfl
/-- a method's own entry -/
theorem xle_entry {K : xK} {nL : Nat} {as : List Value} {h : xH} {b : Option xR} (h1 : as.length ≤ nL) (h2 : as.all (fun v => v.category == 1) = true) (k : xle b (xev K (0, xargs 0 as, [], h))) : xle b (xfun K nL as h) := by
  intro r hr
  unfold xfun
  rw [if_pos ⟨h1, h2⟩]
  exact k r hr
theorem xal_c {v : Value} {vs : List Value} (h1 : (v.category == 1) = true) (h2 : vs.all (fun v => v.category == 1) = true) : (v :: vs).all (fun v => v.category == 1) = true := by
  rw [List.all_cons, h1, h2]
  rfl
theorem xca_i (x : Int32) : ((Value.int x).category == 1) = true := rfl
theorem xca_a (a : Nat) : ((Value.ref a).category == 1) = true := rfl
theorem xca_r (r : Option Nat) : ((va_rf r).category == 1) = true := by rw [xcat_rf]; rfl
end XU
