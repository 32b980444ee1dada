/-! MEMORY: fields, arrays, new cells. -/
section XM
variable {z : xzs} {p : Program} {l : Launch} {e : Env} {R : Room} {s : State} {m : MethodId} {args : Array Value} {below : List Frame} {meth : Method} {c : Code} {H : Heap} {locs : List Loc} {Q : State → Prop} {cc : ByteArray} {pc : Nat} {ls : Array Slot}
def xGf (own : String) (Ts : List Cond) (ini : Prop) (idx : Nat) (f : Nat × Nat × FieldType × Nat) : Prop := ∃ (C : String) (T : u_T) (N : Nat) (ty0 : Nat → FieldType), vwCl[f.1]? = some (C, T, N) ∧ f.2.1 < N ∧ (∀ w ∈ u_ws C T N, w ∈ Ts) ∧ Cond.fieldLink own idx (T f.2.1).1 (T f.2.1).2.1 (T f.2.1).2.2.1 ∈ Ts ∧
  (∀ k, k < N → parseFieldDescriptor (T k).2.2.1 = some (ty0 k)) ∧ ty0 f.2.1 = f.2.2.1 ∧ (∀ a, a < N → ∀ b, b < N → a ≠ b → (T a).2.1 ≠ (T b).2.1) ∧ (f.2.2.2 = 1 → (T f.2.1).2.2.2 = false) ∧ (¬ f.2.2.2 = 1 → f.2.2.2 = 0 ∨ ((T f.2.1).2.2.2 = true ∧ (T f.2.1).1 = own ∧ ini))
def xGn (own : String) (Ts : List Cond) (idx : Nat) (f : Nat × List Value) : Prop := ∃ (C : String) (T : u_T) (N : Nat) (ty0 : Nat → FieldType), vwCl[f.1]? = some (C, T, N) ∧ (∀ w ∈ u_ws C T N, w ∈ Ts) ∧ (∀ k, k < N → parseFieldDescriptor (T k).2.2.1 = some (ty0 k)) ∧
  Cond.classLink own idx C ∈ Ts ∧ Cond.instantiable C N ∈ Ts ∧ Cond.initialized C ∈ Ts ∧ (∀ j, j < N → defaultValue (ty0 j) = vp_V f.2 j) ∧ f.2.length = N
def xGa (own : String) (Ts : List Cond) (idx kd : Nat) : Prop := ∃ C : String, xatC kd = some C ∧ Cond.classLink own idx C ∈ Ts
def xGc (own : String) (Ts : List Cond) (idx ci : Nat) : Prop := ∃ r : vw_C, vwCl[ci]? = some r ∧ Cond.classLink own idx r.1 ∈ Ts
theorem xatC_eq {k : Nat} {C : String} (h : xatC k = some C) : xaty[k]? = some (.object C) := by
  unfold xatC at h
  split at h
  · rename_i q; cases h; exact q
  · cases h
theorem xob_eq {ci : Nat} {e : va_E} {fs : List Value} (h : xob ci e = some fs) : e = .inr (ci, fs) := by
  unfold xob at h
  split at h
  · split at h
    · rename_i q; cases h; rw [q]
    · cases h
  · cases h
theorem xai_eq {kd : Nat} {e : va_E} {q : Nat × (Nat → Int32)} (h : xai kd e = some q) : e = .inl (kd, q.1, .inl q.2) := by
  unfold xai at h
  split at h
  · split at h
    · rename_i z; cases h; rw [z]
    · cases h
  · cases h
theorem xaq_eq {e : va_E} {q : Nat × Nat × (Nat → Option Nat)} (h : xaq e = some q) : e = .inl (q.1, q.2.1, .inr (.inr (.inr (.inr q.2.2)))) ∧ ∃ C, xatC q.1 = some C := by
  unfold xaq at h
  split at h
  · split at h
    · rename_i z; cases h; exact ⟨rfl, Option.isSome_iff_exists.mp z⟩
    · cases h
  · cases h
theorem xaln_eq {e : va_E} {q : Nat × Nat} (h : xaln e = some q) : ∃ x, e = .inl (q.1, q.2, x) ∧ ∃ ty, xaty[q.1]? = some ty := by
  unfold xaln at h
  split at h
  · split at h
    · rename_i z; cases h; exact ⟨_, rfl, Option.isSome_iff_exists.mp z⟩
    · cases h
  · cases h
theorem xcls_eq {e : va_E} {ci : Nat} (h : xcls e = some ci) : ∃ fs, e = .inr (ci, fs) := by
  unfold xcls at h
  split at h
  · cases h; exact ⟨_, rfl⟩
  · cases h
theorem xrd_eq {h : xH} {a ci k : Nat} {v : Value} (hr : xrd h a ci k = some v) : ∃ fs, xat h a = some (.inr (ci, fs)) ∧ fs[k]? = some v := by
  obtain ⟨e, h1, h2⟩ := Option.bind_eq_some_iff.mp hr
  obtain ⟨fs, h3, h4⟩ := Option.bind_eq_some_iff.mp h2
  rw [xob_eq h3] at h1
  exact ⟨fs, h1, h4⟩
theorem xwr_eq {h h' : xH} {a ci k : Nat} {v : Value} (hr : xwr h a ci k v = some h') : ∃ fs, xat h a = some (.inr (ci, fs)) ∧ k < fs.length ∧ h' = xset h a (.inr (ci, fs.set k v)) := by
  obtain ⟨e, h1, h2⟩ := Option.bind_eq_some_iff.mp hr
  obtain ⟨fs, h3, h4⟩ := Option.bind_eq_some_iff.mp h2
  rw [xob_eq h3] at h1
  split at h4
  · rename_i z
    exact ⟨fs, h1, z, (Option.some.inj h4).symm⟩
  · cases h4
theorem xset_mono (h : xH) (a : Nat) (e : va_E) : xMono h (xset h a e) := ⟨rfl, by simp [xset], Nat.le_refl _⟩
theorem xpush_mono (h : xH) (k : Nat) (e : va_E) : xMono h (xpush h k e) := ⟨rfl, by simp [xpush], by simp [xpush]⟩
theorem xset_n (h : xH) (a : Nat) (e : va_E) : xn (xset h a e) = xn h := by simp [xn, xset]
theorem xpush_n (h : xH) (k : Nat) (e : va_E) : xn (xpush h k e) = xn h + 1 := by simp [xn, xpush]; omega
theorem xW_sized {g : JFrame} {cells slots : Nat} (k : H.size ≤ s.heap.size + cells → W p l e R s m args below meth c H locs cells slots Q g) : W p l e R s m args below meth c H locs cells slots Q g :=
  fun T hT X => k (by rw [← hT]; exact X.heapSize) T hT X
theorem xW_ix {g : JFrame} {cells slots cells' slots' : Nat} (h1 : cells' = cells) (h2 : slots' = slots) (k : W p l e R s m args below meth c H locs cells' slots' Q g) : W p l e R s m args below meth c H locs cells slots Q g := by
  subst h1; subst h2; exact k
/-- the point of a walk: what the abstract machine's step needs of the real one -/
def xAt (D : va_G) (dA : Nat → ClassId) (s : State) (locs : List Loc) (h : xH) (H : Heap) : Prop := va_P D vwCl (xws dA h) H ∧ va_S (fun q => h.1 ≤ q) s.heap H locs
theorem xcA_int {D : va_G} {dA : Nat → ClassId} {b : Nat} {cA : ClassId} {ty : FieldType} {k : Nat} (hK : xk z D dA b s) (hk : xaty[k]? = some ty) (hc : va_K D vwCl ([] ++ [(cA, ty)]) s) : cA = dA k := by
  have h1 := (hc.2 0 _ rfl).2
  have h2 := (hK.2.1 k ty hk).2
  cases ty with
  | object C =>
    obtain ⟨_, _, -, -, -, a⟩ := h1
    obtain ⟨_, _, -, -, -, b⟩ := h2
    exact Option.some.inj (a.symm.trans b)
  | _ => exact Option.some.inj (Eq.trans (Eq.symm h1) h2)
set_option maxHeartbeats 4000000 in
theorem xo_mem {K : xK} {i : xI} {L : xL} {st : List Value} {h : xH} {y : xX ⊕ xR} {own : String} {Ts : List Cond} {ini : Prop} {D : va_G} {dA : Nat → ClassId} {s0 : Nat} (hx : p.tables.exec = Jvm.exec) (hb : c.code = cc) (hd : xdec cc pc i)
    (hown : s.vm.findClass own = some m.cls) (hts : ∀ w ∈ Ts, w.before args s = true) (hini : ini → meth.name = "<init>") (hK : xk z D dA h.1 s)
    (hGf : ∀ idx f, xfl K idx = some f → xGf own Ts ini idx f) (hGn : ∀ idx f, xnw K idx = some f → xGn own Ts idx f) (hGa : ∀ idx kd, xan K idx = some kd → xGa own Ts idx kd) (hGc : ∀ idx ci, xcc K idx = some ci → xGc own Ts idx ci)
    (hGi : i = .newarray .int → Cond.arrayClass .int ∈ Ts) (hGz : i = .newarray .boolean → Cond.arrayClass .boolean ∈ Ts)
    (hty0 : xaty[0]? = some .int) (hty1 : xaty[1]? = some .boolean)
    (hs : xmem K i pc L st h = some y) :
    ∃ pc' st' h', y = .inl (pc', L, st', h') ∧ xMono h h' ∧ (h.1 ≤ s.heap.size → s.heap.size ≤ xn h → s0 ≤ h.2.1 → xn h' - s.heap.size ≤ R.cells → h'.2.1 - s0 ≤ R.slots → xAt D dA s locs h H →
      (∀ H' locs', xAt D dA s locs' h' H' → W p l e R s m args below meth c H' locs' (xn h' - s.heap.size) (h'.2.1 - s0) Q (F0 m pc' ls st')) →
      W p l e R s m args below meth c H locs (xn h - s.heap.size) (h.2.1 - s0) Q (F0 m pc ls st)) := by
  unfold xmem at hs
  split at hs
  · -- getfield
    obtain ⟨f, f1, h0⟩ := Option.bind_eq_some_iff.mp hs
    obtain ⟨⟨a, t⟩, a1, h1⟩ := Option.bind_eq_some_iff.mp h0
    obtain ⟨v, r1, h2⟩ := Option.bind_eq_some_iff.mp h1
    cases h2
    have e1 := xpopa_eq a1
    subst e1
    obtain ⟨fs, r2, r3⟩ := xrd_eq r1
    obtain ⟨C, T, N, ty0, g1, g2, g3, g4, -⟩ := hGf _ _ f1
    refine ⟨_, _, _, rfl, xMono.rfl' h, fun _ _ _ _ _ hA k => ?_⟩
    exact va_get hx hb hts g3 hown hK.1 hA.1 (a - h.1) (xws_at dA r2) g1 f.2.1 g2 (hts _ g4) (fun _ z => z) r3 (hd.len (by simp [xlen])) (k H locs hA)
  · -- putfield
    obtain ⟨f, f1, h0⟩ := Option.bind_eq_some_iff.mp hs
    obtain ⟨⟨v, t0⟩, v1, h1⟩ := Option.bind_eq_some_iff.mp h0
    obtain ⟨⟨a, t⟩, a1, h2⟩ := Option.bind_eq_some_iff.mp h1
    split at h2
    · rename_i hc
      obtain ⟨h', w1, h3⟩ := Option.bind_eq_some_iff.mp h2
      cases h3
      have a1 : xpopa t0 = some (a, t) := a1
      have e2 := xpopa_eq a1
      have e1 := xpop1_eq v1
      subst e2
      subst e1
      obtain ⟨fs, r2, r3, rfl⟩ := xwr_eq w1
      obtain ⟨C, T, N, ty0, g1, g2, g3, g4, g5, g6, g7, g8, g9⟩ := hGf _ _ f1
      have hp : parseFieldDescriptor (T f.2.1).2.2.1 = some f.2.2.1 := by rw [← g6]; exact g5 _ g2
      refine ⟨_, _, _, rfl, xset_mono h a _, fun hb1 hb2 hs0 _ _ hA k => ?_⟩
      have ha := (xat_at r2).1
      have kk : ∀ (H1 : Heap) (locs1 : List Loc), va_P D vwCl ((xws dA h).set (a - h.1) (a, .inr (f.1, fs.set f.2.1 v))) H1 → va_D (fun q => h.1 ≤ q) ((xws dA h).set (a - h.1) (a, .inr (f.1, fs.set f.2.1 v))) → va_S (fun q => h.1 ≤ q) s.heap H1 locs1 → W p l e R s m args below meth c H1 locs1 (xn h - s.heap.size) (h.2.1 - s0) Q (F0 m (pc + 3) ls t) := by
        intro H1 locs1 hP1 _ hS1
        have := xws_set dA (.inr (f.1, fs.set f.2.1 v)) ha
        refine xW_ix (by rw [xset_n]) rfl (k H1 locs1 ⟨?_, hS1⟩)
        rw [← this]
        exact hP1
      by_cases hm : f.2.2.2 = 1
      · exact va_put hx hb hts g3 ty0 g5 g7 hown hK.1 hA.1 (xws_D dA h) hA.2 (a - h.1) (xws_at dA r2) g1 f.2.1 g2 (hts _ g4) (fun _ z => z) (g8 hm) hp hc.2.1 hc.2.2 r3 (hd.len (by simp [xlen])) kk
      · rcases g9 hm with z | ⟨z1, z2, z3⟩
        · exact absurd z hc.1
        · exact va_putF hx hb hts g3 ty0 g5 g7 hown hK.1 hA.1 (xws_D dA h) hA.2 (a - h.1) (xws_at dA r2) g1 f.2.1 g2 (hts _ g4) (fun _ z => z) z1 (hini z3) z2 hp hc.2.1 hc.2.2 r3 (hd.len (by simp [xlen])) kk
    · cases h2
  · -- new
    obtain ⟨⟨ci, fs⟩, f1, h0⟩ := Option.bind_eq_some_iff.mp hs
    cases h0
    obtain ⟨C, T, N, ty0, g1, g2, g3, g4, g5, g6, g7, g8⟩ := hGn _ _ f1
    have g8 : fs.length = N := g8
    refine ⟨_, _, _, rfl, xpush_mono h _ _, fun hb1 hb2 hs0 hc1 hc2 hA k => ?_⟩
    rw [xpush_n] at hc1
    have hc2 : h.2.1 + fs.length - s0 ≤ R.slots := hc2
    refine va_new (ci := ci) (fs := fs) hx hb hts g2 ty0 g3 hown (hts _ g4) (hts _ g5) (hts _ g6) hK.1 hA.1 (xws_D dA h) hA.2 (fun q hq => Nat.le_trans hb1 hq) g1 g7 (by omega) (by omega) (hd.len (by simp [xlen])) (fun q H1 hP1 hD1 hS1 => ?_)
    refine xW_sized fun hz => ?_
    have hq1 : h.1 ≤ q := hD1.2 (xws dA h).length (q, .inr (ci, fs)) (by rw [List.getElem?_append_right (Nat.le_refl _), Nat.sub_self]; rfl)
    have hq2 := xws_fresh hD1 hq1
    have hq3 : q < H1.size := (hP1 (xws dA h).length (q, .inr (ci, fs)) (by rw [List.getElem?_append_right (Nat.le_refl _), Nat.sub_self]; rfl)).lt
    have hq : q = xn h := by omega
    subst hq
    refine xW_ix (by rw [xpush_n]; omega) (by show h.2.1 + fs.length - s0 = _; omega) (k H1 locs ⟨?_, hS1⟩)
    rw [← xws_push dA h]
    exact hP1
  · -- newarray int
    obtain ⟨⟨n, t⟩, n1, h0⟩ := Option.bind_eq_some_iff.mp hs
    split at h0
    · cases h0
    · rename_i hn
      cases h0
      have e1 := xpopi_eq n1
      subst e1
      refine ⟨_, _, _, rfl, xpush_mono h _ _, fun hb1 hb2 hs0 hc1 hc2 hA k => ?_⟩
      rw [xpush_n] at hc1
      have hc2 : h.2.1 + n.toNatClampNeg - s0 ≤ R.slots := hc2
      refine va_newa (atype := .int) (ty := .int) (a0 := (n.toNatClampNeg, .inl (fun _ => 0))) hx hb (hts _ (hGi rfl)) rfl hK.1 hA.1 (xws_D dA h) hA.2 (fun q hq => Nat.le_trans hb1 hq) (fun cA => rfl) (fun z => hn (Or.inl z)) rfl (by have : ¬ 100000 < n.toNatClampNeg := fun z => hn (Or.inr z); simp only [componentBytes]; omega) (by omega) (by omega) (hd.len (by simp [xlen])) (fun q cA H1 hK1 hP1 hD1 hS1 => ?_)
      have hcA := xcA_int hK hty0 hK1
      subst hcA
      refine xW_sized fun hz => ?_
      have hq1 : h.1 ≤ q := hD1.2 (xws dA h).length (q, _) (by rw [List.getElem?_append_right (Nat.le_refl _), Nat.sub_self]; rfl)
      have hq2 := xws_fresh hD1 hq1
      have hq3 : q < H1.size := (hP1 (xws dA h).length (q, _) (by rw [List.getElem?_append_right (Nat.le_refl _), Nat.sub_self]; rfl)).lt
      have hq : q = xn h := by omega
      subst hq
      refine xW_ix (by rw [xpush_n]; omega) (by show h.2.1 + n.toNatClampNeg - s0 = _; omega) (k H1 locs ⟨?_, hS1⟩)
      rw [← xws_push dA h]
      exact hP1
  · -- newarray boolean
    obtain ⟨⟨n, t⟩, n1, h0⟩ := Option.bind_eq_some_iff.mp hs
    split at h0
    · cases h0
    · rename_i hn
      cases h0
      have e1 := xpopi_eq n1
      subst e1
      refine ⟨_, _, _, rfl, xpush_mono h _ _, fun hb1 hb2 hs0 hc1 hc2 hA k => ?_⟩
      rw [xpush_n] at hc1
      have hc2 : h.2.1 + n.toNatClampNeg - s0 ≤ R.slots := hc2
      refine va_newa (atype := .boolean) (ty := .boolean) (a0 := (n.toNatClampNeg, .inl (fun _ => 0))) hx hb (hts _ (hGz rfl)) rfl hK.1 hA.1 (xws_D dA h) hA.2 (fun q hq => Nat.le_trans hb1 hq) (fun cA => rfl) (fun z => hn (Or.inl z)) rfl (by have : ¬ 100000 < n.toNatClampNeg := fun z => hn (Or.inr z); simp only [componentBytes]; omega) (by omega) (by omega) (hd.len (by simp [xlen])) (fun q cA H1 hK1 hP1 hD1 hS1 => ?_)
      have hcA := xcA_int hK hty1 hK1
      subst hcA
      refine xW_sized fun hz => ?_
      have hq1 : h.1 ≤ q := hD1.2 (xws dA h).length (q, _) (by rw [List.getElem?_append_right (Nat.le_refl _), Nat.sub_self]; rfl)
      have hq2 := xws_fresh hD1 hq1
      have hq3 : q < H1.size := (hP1 (xws dA h).length (q, _) (by rw [List.getElem?_append_right (Nat.le_refl _), Nat.sub_self]; rfl)).lt
      have hq : q = xn h := by omega
      subst hq
      refine xW_ix (by rw [xpush_n]; omega) (by show h.2.1 + n.toNatClampNeg - s0 = _; omega) (k H1 locs ⟨?_, hS1⟩)
      rw [← xws_push dA h]
      exact hP1
  · -- anewarray
    obtain ⟨kd, kd1, h00⟩ := Option.bind_eq_some_iff.mp hs
    obtain ⟨⟨n, t⟩, n1, h0⟩ := Option.bind_eq_some_iff.mp h00
    obtain ⟨C, g0, g2⟩ := hGa _ _ kd1
    have g1 := xatC_eq g0
    split at h0
    · cases h0
    · rename_i hn
      cases h0
      have e1 := xpopi_eq n1
      subst e1
      refine ⟨_, _, _, rfl, xpush_mono h _ _, fun hb1 hb2 hs0 hc1 hc2 hA k => ?_⟩
      rw [xpush_n] at hc1
      have hc2 : h.2.1 + n.toNatClampNeg - s0 ≤ R.slots := hc2
      refine va_newq hx hb hown (hts _ g2) (hK.2.2.1 kd C g0) hK.1 hA.1 (xws_D dA h) hA.2 (fun q hq => Nat.le_trans hb1 hq) (fun z => hn (Or.inl z)) rfl (by have : ¬ 100000 < n.toNatClampNeg := fun z => hn (Or.inr z); omega) (by omega) (by omega) (hd.len (by simp [xlen])) (fun q cA H1 hK1 hP1 hD1 hS1 => ?_)
      have hcA := xcA_int hK g1 hK1
      subst hcA
      refine xW_sized fun hz => ?_
      have hq1 : h.1 ≤ q := hD1.2 (xws dA h).length (q, _) (by rw [List.getElem?_append_right (Nat.le_refl _), Nat.sub_self]; rfl)
      have hq2 := xws_fresh hD1 hq1
      have hq3 : q < H1.size := (hP1 (xws dA h).length (q, _) (by rw [List.getElem?_append_right (Nat.le_refl _), Nat.sub_self]; rfl)).lt
      have hq : q = xn h := by omega
      subst hq
      refine xW_ix (by rw [xpush_n]; omega) (by show h.2.1 + n.toNatClampNeg - s0 = _; omega) (k H1 locs ⟨?_, hS1⟩)
      rw [← xws_push dA h]
      exact hP1
  · -- arraylength
    obtain ⟨⟨a, t⟩, a1, h1⟩ := Option.bind_eq_some_iff.mp hs
    obtain ⟨e0, r1, h2⟩ := Option.bind_eq_some_iff.mp h1
    obtain ⟨q, r2, h3⟩ := Option.bind_eq_some_iff.mp h2
    cases h3
    have e1 := xpopa_eq a1
    subst e1
    obtain ⟨x, rfl, ty, hty⟩ := xaln_eq r2
    refine ⟨_, _, _, rfl, xMono.rfl' h, fun _ _ _ _ _ hA k => ?_⟩
    exact va_alen hx hb (hK.arr hty) hA.1 (a - h.1) 0 (xws_at dA r1) rfl rfl (hd.len (by simp [xlen])) (k H locs hA)
  · -- iaload
    obtain ⟨⟨j, t0⟩, j1, h0⟩ := Option.bind_eq_some_iff.mp hs
    obtain ⟨⟨a, t⟩, a1, h1⟩ := Option.bind_eq_some_iff.mp h0
    obtain ⟨e0, r1, h2⟩ := Option.bind_eq_some_iff.mp h1
    obtain ⟨q, r2, h3⟩ := Option.bind_eq_some_iff.mp h2
    obtain ⟨z, r3, h4⟩ := Option.bind_eq_some_iff.mp h3
    cases h4
    have a1 : xpopa t0 = some (a, t) := a1
    have e2 := xpopa_eq a1
    have e1 := xpopi_eq j1
    subst e2
    subst e1
    rw [xai_eq r2] at r1
    obtain ⟨hin, rfl⟩ := xix_in r3
    refine ⟨_, _, _, rfl, xMono.rfl' h, fun _ _ _ _ _ hA k => ?_⟩
    exact va_iald hx hb (hK.arr hty0) hA.1 (a - h.1) 0 (xws_at dA r1) rfl hin (hd.len (by simp [xlen])) (k H locs hA)
  · -- baload
    obtain ⟨⟨j, t0⟩, j1, h0⟩ := Option.bind_eq_some_iff.mp hs
    obtain ⟨⟨a, t⟩, a1, h1⟩ := Option.bind_eq_some_iff.mp h0
    obtain ⟨e0, r1, h2⟩ := Option.bind_eq_some_iff.mp h1
    obtain ⟨q, r2, h3⟩ := Option.bind_eq_some_iff.mp h2
    obtain ⟨z, r3, h4⟩ := Option.bind_eq_some_iff.mp h3
    cases h4
    have a1 : xpopa t0 = some (a, t) := a1
    have e2 := xpopa_eq a1
    have e1 := xpopi_eq j1
    subst e2
    subst e1
    rw [xai_eq r2] at r1
    obtain ⟨hin, rfl⟩ := xix_in r3
    refine ⟨_, _, _, rfl, xMono.rfl' h, fun _ _ _ _ _ hA k => ?_⟩
    exact va_zald hx hb (hK.arr hty1) hA.1 (a - h.1) 0 (xws_at dA r1) rfl hin (hd.len (by simp [xlen])) (k H locs hA)
  · -- aaload
    obtain ⟨⟨j, t0⟩, j1, h0⟩ := Option.bind_eq_some_iff.mp hs
    obtain ⟨⟨a, t⟩, a1, h1⟩ := Option.bind_eq_some_iff.mp h0
    obtain ⟨e0, r1, h2⟩ := Option.bind_eq_some_iff.mp h1
    obtain ⟨q, r2, h3⟩ := Option.bind_eq_some_iff.mp h2
    obtain ⟨z, r3, h4⟩ := Option.bind_eq_some_iff.mp h3
    cases h4
    have a1 : xpopa t0 = some (a, t) := a1
    have e2 := xpopa_eq a1
    have e1 := xpopi_eq j1
    subst e2
    subst e1
    obtain ⟨r4, C, hC⟩ := xaq_eq r2
    rw [r4] at r1
    obtain ⟨hin, rfl⟩ := xix_in r3
    refine ⟨_, _, _, rfl, xMono.rfl' h, fun _ _ _ _ _ hA k => ?_⟩
    exact va_aldq hx hb (hK.arr (xatC_eq hC)) hA.1 (a - h.1) 0 (xws_at dA r1) rfl hin (hd.len (by simp [xlen])) (k H locs hA)
  · -- iastore
    obtain ⟨⟨v, t00⟩, v1, h00⟩ := Option.bind_eq_some_iff.mp hs
    obtain ⟨⟨j, t0⟩, j1, h0⟩ := Option.bind_eq_some_iff.mp h00
    obtain ⟨⟨a, t⟩, a1, h1⟩ := Option.bind_eq_some_iff.mp h0
    obtain ⟨e0, r1, h2⟩ := Option.bind_eq_some_iff.mp h1
    obtain ⟨q, r2, h3⟩ := Option.bind_eq_some_iff.mp h2
    obtain ⟨z, r3, h4⟩ := Option.bind_eq_some_iff.mp h3
    cases h4
    have j1 : xpopi t00 = some (j, t0) := j1
    have a1 : xpopa t0 = some (a, t) := a1
    have e2 := xpopa_eq a1
    have e1 := xpopi_eq j1
    have e0 := xpopi_eq v1
    subst e2
    subst e1
    subst e0
    rw [xai_eq r2] at r1
    obtain ⟨hin, rfl⟩ := xix_in r3
    have ha := (xat_at r1).1
    refine ⟨_, _, _, rfl, xset_mono h _ _, fun _ _ _ _ _ hA k => ?_⟩
    refine va_iast hx hb (hK.arr hty0) hA.1 (xws_D dA h) hA.2 (a - h.1) 0 (xws_at dA r1) rfl hin (hd.len (by simp [xlen])) (fun H1 locs1 hP1 _ hS1 => ?_)
    refine xW_ix (by rw [xset_n]) rfl (k H1 locs1 ⟨?_, hS1⟩)
    rw [← xws_set dA _ ha]
    exact hP1
  · -- bastore
    obtain ⟨⟨v, t00⟩, v1, h00⟩ := Option.bind_eq_some_iff.mp hs
    obtain ⟨⟨j, t0⟩, j1, h0⟩ := Option.bind_eq_some_iff.mp h00
    obtain ⟨⟨a, t⟩, a1, h1⟩ := Option.bind_eq_some_iff.mp h0
    obtain ⟨e0, r1, h2⟩ := Option.bind_eq_some_iff.mp h1
    obtain ⟨q, r2, h3⟩ := Option.bind_eq_some_iff.mp h2
    obtain ⟨z, r3, h4⟩ := Option.bind_eq_some_iff.mp h3
    cases h4
    have j1 : xpopi t00 = some (j, t0) := j1
    have a1 : xpopa t0 = some (a, t) := a1
    have e2 := xpopa_eq a1
    have e1 := xpopi_eq j1
    have e0 := xpopi_eq v1
    subst e2
    subst e1
    subst e0
    rw [xai_eq r2] at r1
    obtain ⟨hin, rfl⟩ := xix_in r3
    have ha := (xat_at r1).1
    refine ⟨_, _, _, rfl, xset_mono h _ _, fun _ _ _ _ _ hA k => ?_⟩
    refine va_zast hx hb (hK.arr hty1) hA.1 (xws_D dA h) hA.2 (a - h.1) 0 (xws_at dA r1) rfl hin (hd.len (by simp [xlen])) (fun H1 locs1 hP1 _ hS1 => ?_)
    refine xW_ix (by rw [xset_n]) rfl (k H1 locs1 ⟨?_, hS1⟩)
    rw [← xws_set dA _ ha]
    exact hP1
  · -- aastore
    obtain ⟨⟨v, t00⟩, v1, h00⟩ := Option.bind_eq_some_iff.mp hs
    obtain ⟨⟨j, t0⟩, j1, h0⟩ := Option.bind_eq_some_iff.mp h00
    obtain ⟨⟨a, t⟩, a1, h1⟩ := Option.bind_eq_some_iff.mp h0
    obtain ⟨e0, r1, h2⟩ := Option.bind_eq_some_iff.mp h1
    obtain ⟨q, r2, h3⟩ := Option.bind_eq_some_iff.mp h2
    obtain ⟨z, r3, h4⟩ := Option.bind_eq_some_iff.mp h3
    have j1 : xpopi t00 = some (j, t0) := j1
    have a1 : xpopa t0 = some (a, t) := a1
    have e2 := xpopa_eq a1
    have e1 := xpopi_eq j1
    have e0 := xpopr_eq v1
    subst e2
    subst e1
    subst e0
    obtain ⟨r4, C, hC⟩ := xaq_eq r2
    rw [r4] at r1
    obtain ⟨hin, rfl⟩ := xix_in r3
    have ha := (xat_at r1).1
    cases v with
    | none =>
      cases h4
      refine ⟨_, _, _, rfl, xset_mono h _ _, fun _ _ _ _ _ hA k => ?_⟩
      refine va_astqN hx hb (hK.arr (xatC_eq hC)) hA.1 (xws_D dA h) hA.2 (a - h.1) 0 (xws_at dA r1) rfl hin (hd.len (by simp [xlen])) (fun H1 locs1 hP1 _ hS1 => ?_)
      refine xW_ix (by rw [xset_n]) rfl (k H1 locs1 ⟨?_, hS1⟩)
      rw [← xws_set dA _ ha]
      exact hP1
    | some v =>
      obtain ⟨ey, r5, h5⟩ := Option.bind_eq_some_iff.mp h4
      obtain ⟨ci, r6, h6⟩ := Option.bind_eq_some_iff.mp h5
      split at h6
      · rename_i hcl
        cases h6
        obtain ⟨fs, rfl⟩ := xcls_eq r6
        rw [hC] at hcl
        obtain ⟨rr, hr1, hr2⟩ := Option.map_eq_some_iff.mp hcl
        refine ⟨_, _, _, rfl, xset_mono h _ _, fun _ _ _ _ _ hA k => ?_⟩
        refine va_astq (r := rr) hx hb (hK.arr (xatC_eq hC)) hA.1 (xws_D dA h) hA.2 (a - h.1) 0 (v - h.1) ci (xws_at dA r1) (by rw [hr2]; rfl) (xws_at dA r5) hr1 hin (hd.len (by simp [xlen])) (fun H1 locs1 hP1 _ hS1 => ?_)
        refine xW_ix (by rw [xset_n]) rfl (k H1 locs1 ⟨?_, hS1⟩)
        rw [← xws_set dA _ ha]
        exact hP1
      · cases h6
  · -- checkcast
    obtain ⟨⟨v, t⟩, v1, h1⟩ := Option.bind_eq_some_iff.mp hs
    have e1 := xpopr_eq v1
    subst e1
    cases v with
    | none =>
      cases h1
      refine ⟨_, _, _, rfl, xMono.rfl' h, fun _ _ _ _ _ hA k => ?_⟩
      exact lv_castN hx hb (hd.len (by simp [xlen])) (k H locs hA)
    | some v =>
      obtain ⟨ci, c1, h2⟩ := Option.bind_eq_some_iff.mp h1
      obtain ⟨ey, r1, h3⟩ := Option.bind_eq_some_iff.mp h2
      obtain ⟨fs, r2, h4⟩ := Option.bind_eq_some_iff.mp h3
      cases h4
      rw [xob_eq r2] at r1
      obtain ⟨rr, g1, g2⟩ := hGc _ _ c1
      refine ⟨_, _, _, rfl, xMono.rfl' h, fun _ _ _ _ _ hA k => ?_⟩
      exact va_castS hx hb hown (hts _ g2) (hK.1.1 ci rr g1).2 (va_recv hK.1 hA.1 g1 (xws_at dA r1)) (hd.len (by simp [xlen])) (k H locs hA)
  · cases hs
end XM
