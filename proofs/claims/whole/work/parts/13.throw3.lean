/-! METHODS WITH A THROW. -/
section XO
variable {z : xzs} {l : Launch} {cc : ByteArray} {nL rF rL : Nat} {Ts : List Cond} {own : String} {K : xK} {D : va_G} {dA : Nat → ClassId}
set_option maxHeartbeats 1000000 in
/-- one step is right -/
theorem x_one {p : Program} {e : Env} {R : Room} {s : State} {m : MethodId} {args : Array Value} {below : List Frame} {meth : Method} {c : Code} {Q : State → Prop} {ini : Prop} {h0 : xH} (F : xFix z p s m args meth c cc nL Ts own R rF rL D dA h0) (G : xGood z l K own cc nL Ts ini rF rL) (hini : ini → meth.name = "<init>") (hret : meth.sig.returnType = xrt K)
    (hty0 : xaty[0]? = some .int) (hty1 : xaty[1]? = some .boolean) {x : xX} {y : xX ⊕ xR} (hs : xstep K x = some y) (hm0 : xMono h0 x.2.2.2) {ls : Array Slot} {H : Heap} {locs : List Loc} (hl0 : xlv ls nL x.2.1) (hA : xAt D dA s locs x.2.2.2 H) :
    (∃ x', y = .inl x' ∧ xMono x.2.2.2 x'.2.2.2 ∧ (xn x'.2.2.2 - s.heap.size ≤ R.cells → x'.2.2.2.2.1 - h0.2.1 ≤ R.slots → (∀ ls' H' locs', xlv ls' nL x'.2.1 → xAt D dA s locs' x'.2.2.2 H' → W p l e R s m args below meth c H' locs' (xn x'.2.2.2 - s.heap.size) (x'.2.2.2.2.1 - h0.2.1) Q (F0 m x'.1 ls' x'.2.2.1)) →
      W p l e R s m args below meth c H locs (xn x.2.2.2 - s.heap.size) (x.2.2.2.2.1 - h0.2.1) Q (F0 m x.1 ls x.2.2.1))) ∨
    (∃ r, y = .inr r ∧ xMono x.2.2.2 r.2 ∧ (xn r.2 - s.heap.size ≤ R.cells → r.2.2.1 - h0.2.1 ≤ R.slots → W p l e R s m args below meth c H locs (xn x.2.2.2 - s.heap.size) (x.2.2.2.2.1 - h0.2.1) (xZ below args s D dA h0 r) (F0 m x.1 ls x.2.2.1))) := by
  obtain ⟨pc, L0, st, h⟩ := x
  obtain ⟨i, hi, h4⟩ := Option.bind_eq_some_iff.mp hs
  obtain ⟨hd, hn, hGi, hGz⟩ := G.1 pc i hi
  have hl : xlv ls nL (xmask (xmk K pc) L0) := hl0.sub (fun q hq => xmask_mem hq)
  have h4 : xsem K i pc (xmask (xmk K pc) L0) st h = some y := h4
  generalize xmask (xmk K pc) L0 = L at h4 hl
  have hm0 : xMono h0 h := hm0
  have hA : xAt D dA s locs h H := hA
  obtain ⟨S, hRR, hK, hlocks, hex, hsz⟩ := id F
  obtain ⟨hx, hb, hml, hown, hts⟩ := id S
  have hb0 : h.1 = h0.1 := hm0.1
  have hb1 : h.1 ≤ s.heap.size := by rw [hsz, hb0]; unfold xn; omega
  have hb2 : s.heap.size ≤ xn h := by rw [hsz]; exact hm0.n
  have hs0 : h0.2.1 ≤ h.2.1 := hm0.2.2
  unfold xsem at h4
  split at h4
  · obtain ⟨pc', st', rfl, step⟩ := xo_math (p := p) (l := l) (e := e) (R := R) (s := s) (m := m) (args := args) (below := below) (meth := meth) (c := c) (H := H) (locs := locs) (cells := xn h - s.heap.size) (slots := h.2.1 - h0.2.1) (Q := Q) (ls := ls) hx hb hd h4
    exact Or.inl ⟨_, rfl, xMono.rfl' h, fun _ _ kk => step (kk ls H locs hl hA)⟩
  · split at h4
    · obtain ⟨pc', L', st', rfl, step⟩ := xo_vars (p := p) (l := l) (e := e) (R := R) (s := s) (m := m) (args := args) (below := below) (meth := meth) (c := c) (H := H) (locs := locs) (cells := xn h - s.heap.size) (slots := h.2.1 - h0.2.1) (Q := Q) (ls := ls) hx hb hd hn h4
      exact Or.inl ⟨_, rfl, xMono.rfl' h, fun _ _ kk => step hl (fun ls' hl' => kk ls' H locs hl' hA)⟩
    · split at h4
      · obtain ⟨pc', st', rfl, step⟩ := xo_branch (p := p) (l := l) (e := e) (R := R) (s := s) (m := m) (args := args) (below := below) (meth := meth) (c := c) (H := H) (locs := locs) (cells := xn h - s.heap.size) (slots := h.2.1 - h0.2.1) (Q := Q) (ls := ls) hx hb hd h4
        exact Or.inl ⟨_, rfl, xMono.rfl' h, fun _ _ kk => step (kk ls H locs hl hA)⟩
      · split at h4
        · have hK' : xk z D dA h.1 s := by rw [hb0]; exact hK
          obtain ⟨pc', st', h', rfl, hm, step⟩ := xo_mem (p := p) (l := l) (e := e) (R := R) (s := s) (m := m) (args := args) (below := below) (meth := meth) (c := c) (H := H) (locs := locs) (s0 := h0.2.1) (Q := Q) (ls := ls) hx hb hd hown hts hini hK' G.2.1 G.2.2.1 G.2.2.2.1 G.2.2.2.2.1 hGi hGz hty0 hty1 h4
          exact Or.inl ⟨_, rfl, hm, fun c1 c2 kk => step hb1 hb2 hs0 c1 c2 hA (fun H' locs' hA' => kk ls H' locs' hl hA')⟩
        · split at h4
          · rcases xo_calls (p := p) (l := l) (e := e) (R := R) (s := s) (m := m) (args := args) (below := below) (meth := meth) (c := c) (H := H) (locs := locs) (Q := Q) (ls := ls) F hm0 hd hret hty0 G.2.2.2.2.2 h4 with ⟨st', h', rfl, hm, step⟩ | ⟨r', rfl, hm, step⟩
            · exact Or.inl ⟨_, rfl, hm, fun c1 c2 kk => step hl c1 c2 hA (fun H' locs' hA' => kk ls H' locs' hl hA')⟩
            · exact Or.inr ⟨_, rfl, hm, fun c1 c2 => step hl c1 c2 hA⟩
          · cases h4
end XO
/-- where an instruction may go on -/
def xoffs (i : xI) : List Int := match i with
  | .goto off => [off]
  | .ifCond _ off => [off, 3]
  | .if_icmp _ off => [off, 3]
  | .ifnull off => [off, 3]
  | .ifnonnull off => [off, 3]
  | .if_acmp _ off => [off, 3]
  | .tableswitch d _ _ offs => d :: offs.toList
  | .lookupswitch _ _ => []
  | i => [(xlen i : Int)]
def xPS (S : Nat → Prop) (o : xS) : Prop := ∀ x', o = some (.inl x') → S x'.1
theorem xPS_none {S : Nat → Prop} : xPS S none := fun _ w => by cases w
theorem xPS_next {S : Nat → Prop} {pc : Nat} {L : xL} {st : List Value} {h : xH} (hs : S pc) : xPS S (some (.inl (pc, L, st, h))) := fun _ w => by cases w; exact hs
theorem xPS_end {S : Nat → Prop} {r : xR} : xPS S (some (.inr r)) := fun _ w => by cases w
theorem xPS_bind {S : Nat → Prop} {α : Type} {o : Option α} {f : α → xS} (hf : ∀ a, o = some a → xPS S (f a)) : xPS S (o.bind f) := fun y w => by
  obtain ⟨a, h1, h2⟩ := Option.bind_eq_some_iff.mp w
  exact hf a h1 y h2
theorem xPS_ite {S : Nat → Prop} {c : Prop} [Decidable c] {a b : xS} (ha : xPS S a) (hb : xPS S b) : xPS S (if c then a else b) := by
  split
  · exact ha
  · exact hb
theorem xPS_back {S : Nat → Prop} {pc : Nat} {L : xL} {t : List Value} {r : xR} (hs : S (pc + 3)) : xPS S (xback pc L t r) := by
  unfold xback
  split
  · exact xPS_next hs
  · exact xPS_end
theorem xPS_backI {S : Nat → Prop} {pc : Nat} {L : xL} {t : List Value} {r : xR} (hs : S (pc + 3)) : xPS S (xbackI pc L t r) := by
  unfold xbackI
  split
  · exact xPS_next hs
  · exact xPS_none
theorem xsem_to {K : xK} {i : xI} {pc : Nat} {L : xL} {st : List Value} {h : xH} (hlk : ∀ d ps, i ≠ .lookupswitch d ps) : xPS (fun q => ∃ off ∈ xoffs i, (pc : Int) + off = (q : Int)) (xsem K i pc L st h) := by
  unfold xsem
  refine xPS_ite ?_ (xPS_ite ?_ (xPS_ite ?_ (xPS_ite ?_ (xPS_ite ?_ xPS_none))))
  · unfold xmath
    split <;> (try unfold xbin) <;> repeat' (first | exact xPS_none | exact xPS_next ⟨_, List.mem_cons_self, rfl⟩ | (refine xPS_bind fun _ _ => ?_) | (refine xPS_ite ?_ ?_))
  · unfold xvars
    split <;> repeat' (first | exact xPS_none | exact xPS_next ⟨_, List.mem_cons_self, rfl⟩ | (refine xPS_bind fun _ _ => ?_) | (refine xPS_ite ?_ ?_))
  · unfold xbranch
    split <;> (try unfold xgo)
    · exact xPS_bind fun q hq => xPS_next ⟨_, List.mem_cons_self, xjmp_eq hq⟩
    · exact xPS_bind fun q hq => xPS_bind fun _ _ => xPS_ite (xPS_next ⟨_, List.mem_cons_self, xjmp_eq hq⟩) (xPS_next ⟨3, by simp [xoffs], rfl⟩)
    · exact xPS_bind fun q hq => xPS_bind fun _ _ => xPS_bind fun _ _ => xPS_ite (xPS_next ⟨_, List.mem_cons_self, xjmp_eq hq⟩) (xPS_next ⟨3, by simp [xoffs], rfl⟩)
    · exact xPS_bind fun q hq => xPS_bind fun _ _ => xPS_ite (xPS_next ⟨_, List.mem_cons_self, xjmp_eq hq⟩) (xPS_next ⟨3, by simp [xoffs], rfl⟩)
    · exact xPS_bind fun q hq => xPS_bind fun _ _ => xPS_ite (xPS_next ⟨3, by simp [xoffs], rfl⟩) (xPS_next ⟨_, List.mem_cons_self, xjmp_eq hq⟩)
    · exact xPS_bind fun q hq => xPS_bind fun _ _ => xPS_bind fun _ _ => xPS_ite (xPS_next ⟨_, List.mem_cons_self, xjmp_eq hq⟩) (xPS_next ⟨3, by simp [xoffs], rfl⟩)
    · exact xPS_bind fun q hq => xPS_bind fun _ _ => xPS_bind fun _ _ => xPS_ite (xPS_next ⟨3, by simp [xoffs], rfl⟩) (xPS_next ⟨_, List.mem_cons_self, xjmp_eq hq⟩)
    · exact xPS_bind fun _ _ => xPS_ite (xPS_bind fun q hq => xPS_next ⟨_, List.mem_cons_self, xjmp_eq hq⟩) (xPS_bind fun off ho => xPS_bind fun q hq => xPS_next ⟨off, List.mem_cons_of_mem _ (Array.mem_toList_iff.mpr (Array.mem_of_getElem? ho)), xjmp_eq hq⟩)
    · exact absurd rfl (hlk _ _)
    · exact xPS_none
  · unfold xmem
    split <;> repeat' (first | exact xPS_none | exact xPS_next ⟨_, List.mem_cons_self, rfl⟩ | (refine xPS_bind fun _ _ => ?_) | (refine xPS_ite ?_ ?_) | split)
  · unfold xcalls
    split <;> (try unfold xcall) <;> (try unfold xcopy) <;> repeat' (first | exact xPS_none | exact xPS_end | exact xPS_next ⟨_, List.mem_cons_self, rfl⟩ | exact xPS_back ⟨_, List.mem_cons_self, rfl⟩ | exact xPS_backI ⟨_, List.mem_cons_self, rfl⟩ | (refine xPS_bind fun _ _ => ?_) | (refine xPS_ite ?_ ?_))
