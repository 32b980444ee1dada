/-! THE LISTS' STEPS ARE RIGHT. -/
def xSpO (z : xzs) (l : Launch) (own : String) (cc : ByteArray) (nL : Nat) (Ts : List Cond) (rF rL : Nat) (g : xX → Option xX) (pc : Nat) : Prop := ∀ {p : Program} {e : Env} {R : Room} {s : State} {m : MethodId} {args : Array Value} {below : List Frame} {meth : Method} {c : Code} {Q : State → Prop} {h0 : xH} {D : va_G} {dA : Nat → ClassId}, xFix z p s m args meth c cc nL Ts own R rF rL D dA h0 → ∀ x x' : xX, x.1 = pc → g x = some x' → xMono h0 x.2.2.2 → ∀ (ls : Array Slot) (H : Heap) (locs : List Loc), xlv ls nL x.2.1 → xAt D dA s locs x.2.2.2 H →
  xn x'.2.2.2 - s.heap.size ≤ R.cells → x'.2.2.2.2.1 - h0.2.1 ≤ R.slots → (∀ ls' H' locs', xlv ls' nL x'.2.1 → xAt D dA s locs' x'.2.2.2 H' → W p l e R s m args below meth c H' locs' (xn x'.2.2.2 - s.heap.size) (x'.2.2.2.2.1 - h0.2.1) Q (F0 m x'.1 ls' x'.2.2.1)) →
    W p l e R s m args below meth c H locs (xn x.2.2.2 - s.heap.size) (x.2.2.2.2.1 - h0.2.1) Q (F0 m x.1 ls x.2.2.1)
def xSpM (g : xX → Option xX) : Prop := ∀ x x' : xX, g x = some x' → xMono x.2.2.2 x'.2.2.2
def xSpOk (z : xzs) (l : Launch) (own : String) (cc : ByteArray) (nL : Nat) (Ts : List Cond) (rF rL : Nat) (T : List (Nat × (xX → Option xX))) : Prop := ∀ e ∈ T, xSpM e.2 ∧ xSpO z l own cc nL Ts rF rL e.2 e.1
section XSP
variable {z : xzs} {l : Launch} {cc : ByteArray} {nL rF rL : Nat} {Ts : List Cond} {own : String} {K : xK} {D : va_G} {dA : Nat → ClassId} {T : List (Nat × (xX → Option xX))}
theorem xoS_cases {K : xK} {x : xX} {y : xX ⊕ xR} (h : xoS K (xlook T) x = some y) : (∃ g x', (x.1, g) ∈ T ∧ g x = some x' ∧ y = .inl x') ∨ xstep K x = some y := by
  unfold xoS at h
  split at h
  · rename_i x' hx
    obtain ⟨g, h1, h2⟩ := Option.bind_eq_some_iff.mp hx
    cases h
    exact Or.inl ⟨g, x', xlook_mem h1, h2, rfl⟩
  · exact Or.inr h
theorem x_monoS {ini : Prop} (G : xGood z l K own cc nL Ts ini rF rL) (S : xSpOk z l own cc nL Ts rF rL T) : ∀ (n : Nat) (x : xX) (r : xR), xrS K (xlook T) n x r → xMono x.2.2.2 r.2
  | 0, _, _, hr => hr.elim
  | n + 1, x, r, hr => by
    have one : ∀ y, xoS K (xlook T) x = some y → (∃ x' : xX, y = .inl x' ∧ xMono x.2.2.2 x'.2.2.2) ∨ ∃ r : xR, y = .inr r ∧ xMono x.2.2.2 r.2 := by
      intro y hy
      rcases xoS_cases hy with ⟨g, x', h1, h2, rfl⟩ | h1
      · exact Or.inl ⟨x', rfl, (S _ h1).1 x x' h2⟩
      · obtain ⟨i, -, h4⟩ := Option.bind_eq_some_iff.mp h1
        exact xsem_h (fun idx c0 as r a b d => G.mono idx c0 as _ r a b d) y h4
    rcases hr with ⟨x', h1, h2⟩ | h1
    · rcases one _ h1 with ⟨x2, e, hm⟩ | ⟨r2, e, hm⟩
      · cases e
        exact hm.trans (x_monoS G S n x' r h2)
      · cases e
    · rcases one _ h1 with ⟨x2, e, hm⟩ | ⟨r2, e, hm⟩
      · cases e
      · cases e
        exact hm
theorem x_soundS {p : Program} {e : Env} {R : Room} {s : State} {m : MethodId} {args : Array Value} {below : List Frame} {meth : Method} {c : Code} {ini : Prop} {h0 : xH} (F : xFix z p s m args meth c cc nL Ts own R rF rL D dA h0) (G : xGood z l K own cc nL Ts ini rF rL) (S : xSpOk z l own cc nL Ts rF rL T) (hini : ini → meth.name = "<init>") (hret : meth.sig.returnType = xrt K)
    (hty0 : xaty[0]? = some .int) (hty1 : xaty[1]? = some .boolean) : ∀ (n : Nat) (x : xX) (r : xR), xrS K (xlook T) n x r → xMono h0 x.2.2.2 → xn r.2 - s.heap.size ≤ R.cells → r.2.2.1 - h0.2.1 ≤ R.slots →
    ∀ (ls : Array Slot) (H : Heap) (locs : List Loc), xlv ls nL x.2.1 → xAt D dA s locs x.2.2.2 H → W p l e R s m args below meth c H locs (xn x.2.2.2 - s.heap.size) (x.2.2.2.2.1 - h0.2.1) (xZ below args s D dA h0 r) (F0 m x.1 ls x.2.2.1)
  | 0, _, _, hr, _, _, _, _, _, _, _, _ => hr.elim
  | n + 1, x, r, hr, hm0, hrc, hrs, ls, H, locs, hl0, hA => by
    have go : ∀ x' : xX, xMono x.2.2.2 x'.2.2.2 → xrS K (xlook T) n x' r → xn x'.2.2.2 - s.heap.size ≤ R.cells ∧ x'.2.2.2.2.1 - h0.2.1 ≤ R.slots ∧ ∀ ls' H' locs', xlv ls' nL x'.2.1 → xAt D dA s locs' x'.2.2.2 H' → W p l e R s m args below meth c H' locs' (xn x'.2.2.2 - s.heap.size) (x'.2.2.2.2.1 - h0.2.1) (xZ below args s D dA h0 r) (F0 m x'.1 ls' x'.2.2.1) := by
      intro x' hm h2
      have k2 := x_monoS G S n x' r h2
      have k4 := k2.n
      have k5 := k2.2.2
      exact ⟨by omega, by omega, fun ls' H' locs' a b => x_soundS F G S hini hret hty0 hty1 n x' r h2 (hm0.trans hm) hrc hrs ls' H' locs' a b⟩
    rcases hr with ⟨x', h1, h2⟩ | h1
    · rcases xoS_cases h1 with ⟨g, x2, g1, g2, e⟩ | h1
      · cases e
        obtain ⟨c1, c2, kk⟩ := go x' ((S _ g1).1 x x' g2) h2
        exact (S _ g1).2 F x x' rfl g2 hm0 ls H locs hl0 hA c1 c2 kk
      · rcases x_one (e := e) (below := below) (Q := xZ below args s D dA h0 r) F G hini hret hty0 hty1 h1 hm0 hl0 hA with ⟨x2, e, hm, step⟩ | ⟨r2, e, -, -⟩
        · cases e
          obtain ⟨c1, c2, kk⟩ := go x' hm h2
          exact step c1 c2 kk
        · cases e
    · rcases xoS_cases h1 with ⟨g, x2, g1, g2, e⟩ | h1
      · cases e
      · rcases x_one (e := e) (below := below) (Q := xZ below args s D dA h0 r) F G hini hret hty0 hty1 h1 hm0 hl0 hA with ⟨x2, e, -, -⟩ | ⟨r2, e, hm, step⟩
        · cases e
        · cases e
          exact step hrc hrs
/-- a method does what a function says, where each run of the function is one of the machine -/
theorem xCt_ofS {y : MethodName} {w w' : List Cond} {f : xF} (hy : plainName y.cls = true) (hw : w = Cond.code y cc nL (xrt K) :: w') (hown : y.cls = own) (G : xGood z l K own cc nL w (y.name = "<init>") rF rL) (S : xSpOk z l own cc nL w rF rL T) (hR : xRun K (xlook T) nL f) : xCt z l y w rF rL f := by
  intro as h r hf
  obtain ⟨⟨hlen, hcat⟩, n, hr⟩ := hR as h r hf
  have hmo := x_monoS G S n _ r hr
  refine ⟨hmo, fun D dA => ⟨fun v hv => ?_, fun a hv => ?_⟩⟩
  · refine Met.ofW (cc := cc) (maxL := nL) (ret := xrt K) hy hw ?_
    intro p e s m args below meth c s₁ B hml hv0
    obtain ⟨rfl, ⟨hsz, hP⟩, hK⟩ := hv0
    have hts := atoms_spec (ws := w) B.pre
    have hnm : s.vm.findClass own = some m.cls := by rw [← hown]; exact findClass_of_methodNamed B.named
    have hin : y.name = "<init>" → meth.name = "<init>" := fun z => (name_of_methodNamed B.named B.method).1.trans z
    have hex : c.exceptionTable.isEmpty = true := B.noHandlers (hts _ (by rw [hw]; exact List.mem_cons_self))
    obtain ⟨ha1, ha2, ha3⟩ := xargs_eq as 0 hcat
    have F : xFix z p s m as.toArray meth c cc nL w own (headSpec w (xRm rF rL h r.2)).room rF rL D dA h := ⟨⟨B.exec, B.bytes, hml, hnm, hts⟩, ⟨rfl, rfl⟩, hK, B.notSynchronized, hex, hsz⟩
    have hl := lv_entry as (n := nL) (by rw [ha2]; exact hlen)
    rw [lg_entry_eq]
    generalize (lg_sl as ++ List.replicate (nL - (lg_sl as).length) Slot.unset).toArray = ls at hl ⊢
    rw [ha1] at hl
    have key := x_soundS (e := e) (below := below) F G S hin B.returns xaty0 xaty1 n _ r hr (xMono.rfl' h) (by rw [hsz]; exact Nat.le_refl _) (Nat.le_refl _) ls s.heap [] ⟨hl, ha3⟩ ⟨hP, va_S.rf⟩
    unfold xZ at key
    rw [hv] at key
    rw [hsz] at key
    simp only [Nat.sub_self] at key
    exact key
  · refine MetT.ofW (cc := cc) (maxL := nL) (ret := xrt K) hy hw ?_
    intro p e s m args below meth c s₁ B hml hv0
    obtain ⟨rfl, ⟨hsz, hP⟩, hK⟩ := hv0
    have hts := atoms_spec (ws := w) B.pre
    have hnm : s.vm.findClass own = some m.cls := by rw [← hown]; exact findClass_of_methodNamed B.named
    have hin : y.name = "<init>" → meth.name = "<init>" := fun z => (name_of_methodNamed B.named B.method).1.trans z
    have hex : c.exceptionTable.isEmpty = true := B.noHandlers (hts _ (by rw [hw]; exact List.mem_cons_self))
    obtain ⟨ha1, ha2, ha3⟩ := xargs_eq as 0 hcat
    have F : xFix z p s m as.toArray meth c cc nL w own (headSpec w (xRm rF rL h r.2)).room rF rL D dA h := ⟨⟨B.exec, B.bytes, hml, hnm, hts⟩, ⟨rfl, rfl⟩, hK, B.notSynchronized, hex, hsz⟩
    have hl := lv_entry as (n := nL) (by rw [ha2]; exact hlen)
    rw [lg_entry_eq]
    generalize (lg_sl as ++ List.replicate (nL - (lg_sl as).length) Slot.unset).toArray = ls at hl ⊢
    rw [ha1] at hl
    have key := x_soundS (e := e) (below := below) F G S hin B.returns xaty0 xaty1 n _ r hr (xMono.rfl' h) (by rw [hsz]; exact Nat.le_refl _) (Nat.le_refl _) ls s.heap [] ⟨hl, ha3⟩ ⟨hP, va_S.rf⟩
    unfold xZ at key
    rw [hv] at key
    rw [hsz] at key
    simp only [Nat.sub_self] at key
    exact key
-- each step
theorem sm_gets (v : Value) : xSpM (sp_gets v) := fun x x' h => by cases h; exact xMono.rfl' _
theorem sm_ldc (v : Value) : xSpM (sp_ldc v) := fun x x' h => by cases h; exact xMono.rfl' _
theorem sm_alen (a : Nat) : xSpM (sp_alen a) := fun x x' h => by
  obtain ⟨q, -, h⟩ := Option.bind_eq_some_iff.mp h
  split at h
  · cases h; exact xMono.rfl' _
  · cases h
theorem sm_get (ci k : Nat) : xSpM (sp_get ci k) := fun x x' h => by
  obtain ⟨q, -, h⟩ := Option.bind_eq_some_iff.mp h
  obtain ⟨v, -, h⟩ := Option.bind_eq_some_iff.mp h
  cases h; exact xMono.rfl' _
theorem sm_put (ci k : Nat) : xSpM (sp_put ci k) := fun x x' h => by
  obtain ⟨v, -, h⟩ := Option.bind_eq_some_iff.mp h
  obtain ⟨a, -, h⟩ := Option.bind_eq_some_iff.mp h
  obtain ⟨h', e, h⟩ := Option.bind_eq_some_iff.mp h
  cases h
  obtain ⟨fs, -, -, rfl⟩ := xwr_eq e
  exact xset_mono _ _ _
theorem sm_getC (mi : Nat) : xSpM (sp_getC mi) := fun x x' h => by
  obtain ⟨v, -, h⟩ := Option.bind_eq_some_iff.mp h
  obtain ⟨a, -, h⟩ := Option.bind_eq_some_iff.mp h
  obtain ⟨h', e, h⟩ := Option.bind_eq_some_iff.mp h
  split at h
  · cases h; exact xMono.rfl' _
  · cases h
theorem sm_max : xSpM sp_max := fun x x' h => by
  obtain ⟨v, -, h⟩ := Option.bind_eq_some_iff.mp h
  obtain ⟨a, -, h⟩ := Option.bind_eq_some_iff.mp h
  split at h
  · cases h; exact xMono.rfl' _
  · cases h
theorem sm_min : xSpM sp_min := fun x x' h => by
  obtain ⟨v, -, h⟩ := Option.bind_eq_some_iff.mp h
  obtain ⟨a, -, h⟩ := Option.bind_eq_some_iff.mp h
  split at h
  · cases h; exact xMono.rfl' _
  · cases h
theorem spQ_eq {h h' : xH} {a v : Nat} {i : Int32} (e : spQ h a i v = some h') : ∃ n f fs, xat h a = some (xobs f n) ∧ vp_in i n ∧ xat h v = some (.inr (1, fs)) ∧ h' = xset h a (xobs (va_up f i.toNatClampNeg (some v)) n) := by
  unfold spQ at e
  obtain ⟨ec, e1, f1⟩ := Option.bind_eq_some_iff.mp e
  obtain ⟨⟨c, n, f⟩, e2, f2⟩ := Option.bind_eq_some_iff.mp f1
  obtain ⟨j, e3, f3⟩ := Option.bind_eq_some_iff.mp f2
  obtain ⟨u, e4, f4⟩ := Option.bind_eq_some_iff.mp f3
  dsimp only at f4 e3
  split at f4
  · rename_i hc
    obtain ⟨hin, hj⟩ := xix_in e3
    obtain ⟨fs, hv⟩ := xisO_1 e4
    rw [hc] at e2
    rw [xaq_obs e2] at e1
    refine ⟨n, f, fs, e1, hin, hv, ?_⟩
    rw [hj]
    exact (Option.some.inj f4).symm
  · cases f4
theorem spC_eq {h h' : xH} {s d : Nat} {sp dp n : Int32} (e : spC h s sp d dp n = some h') : ∃ ns fs nd fd, xat h s = some (xobs fs ns) ∧ xat h d = some (xobs fd nd) ∧ (¬ sp < 0 ∧ ¬ dp < 0 ∧ ¬ n < 0 ∧ sp.toNatClampNeg + n.toNatClampNeg ≤ ns ∧ dp.toNatClampNeg + n.toNatClampNeg ≤ nd ∧ xcaps h (sp.toNatClampNeg + n.toNatClampNeg) fs = true) ∧ h' = xset h d (xobs (va_cpy fs fd sp.toNatClampNeg dp.toNatClampNeg n.toNatClampNeg) nd) := by
  unfold spC at e
  obtain ⟨es, e1, f1⟩ := Option.bind_eq_some_iff.mp e
  obtain ⟨⟨cs, ns, fs⟩, e2, f2⟩ := Option.bind_eq_some_iff.mp f1
  obtain ⟨ed, e3, f3⟩ := Option.bind_eq_some_iff.mp f2
  obtain ⟨⟨cd, nd, fd⟩, e4, f4⟩ := Option.bind_eq_some_iff.mp f3
  dsimp only at f4
  split at f4
  · rename_i hc
    obtain ⟨⟨hs, hd⟩, hc⟩ := hc
    rw [hs] at e2
    rw [hd] at e4
    rw [xaq_obs e2] at e1
    rw [xaq_obs e4] at e3
    exact ⟨ns, fs, nd, fd, e1, e3, hc, (Option.some.inj f4).symm⟩
  · cases f4
theorem sm_aast : xSpM sp_aast := fun x x' h => by
  obtain ⟨v, -, h⟩ := Option.bind_eq_some_iff.mp h
  obtain ⟨i, -, h⟩ := Option.bind_eq_some_iff.mp h
  obtain ⟨a, -, h⟩ := Option.bind_eq_some_iff.mp h
  obtain ⟨h', e, h⟩ := Option.bind_eq_some_iff.mp h
  cases h
  obtain ⟨n, f, fs, -, -, -, rfl⟩ := spQ_eq e
  exact xset_mono _ _ _
theorem sm_copy : xSpM sp_copy := fun x x' h => by
  obtain ⟨v, -, h⟩ := Option.bind_eq_some_iff.mp h
  obtain ⟨i, -, h⟩ := Option.bind_eq_some_iff.mp h
  obtain ⟨a, -, h⟩ := Option.bind_eq_some_iff.mp h
  obtain ⟨b, -, h⟩ := Option.bind_eq_some_iff.mp h
  obtain ⟨c, -, h⟩ := Option.bind_eq_some_iff.mp h
  obtain ⟨h', e, h⟩ := Option.bind_eq_some_iff.mp h
  split at h
  · cases h
    obtain ⟨ns, fs, nd, fd, -, -, -, rfl⟩ := spC_eq e
    exact xset_mono _ _ _
  · cases h
end XSP
