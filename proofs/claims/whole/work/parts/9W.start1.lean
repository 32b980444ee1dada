/-! THE LAW'S BEGINNING: what the Statement gives of the start, both constructors, the law's array. -/
section LB
theorem xcell_cg {c n : Nat} {f f' : Nat → Option Nat} (h : ∀ i, i < n → f i = f' i) : vp_cell c (n, .inr (.inr (.inr (.inr f)))) = vp_cell c (n, .inr (.inr (.inr (.inr f')))) := by
  have e : (fun j : Fin n => va_rf (f j.val)) = (fun j : Fin n => va_rf (f' j.val)) := by
    funext j
    rw [h j.val j.isLt]
  rw [vp_cell_q, vp_cell_q]
  unfold arrV
  rw [e]
/-- cells that are the same as far as their arrays go -/
theorem xAt_eq {D : va_G} {dA : Nat → ClassId} {s : State} {locs : List Loc} {H : Heap} {b u : Nat} {L L' : List va_E} (hlen : L'.length = L.length) (h : ∀ i, i < L.length → ∃ e e', L[i]? = some e ∧ L'[i]? = some e' ∧ eEq e e') (hA : xAt D dA s locs (b, u, L) H) : xAt D dA s locs (b, u, L') H := by
  refine ⟨fun k q hq => ?_, hA.2⟩
  have hq : (xwsA dA b L')[k]? = some q := hq
  rw [xwsA_get] at hq
  obtain ⟨e', h1, h2⟩ := Option.map_eq_some_iff.mp hq
  have hk := (List.getElem?_eq_some_iff.mp h1).1
  obtain ⟨e, e2, g1, g2, g3⟩ := h k (by omega)
  cases h1.symm.trans g2
  have g : va_at D vwCl (b + k, xe dA e) H := hA.1 k _ (by show (xwsA dA b L)[k]? = _; rw [xwsA_get, g1]; rfl)
  subst h2
  rcases g3 with rfl | ⟨kd, n, f, f', rfl, rfl, hf⟩
  · exact g
  · show H[b + k]? = some (vp_cell (dA kd) (n, .inr (.inr (.inr (.inr f')))))
    rw [← xcell_cg hf]
    exact g
theorem xarrI {args : Array Value} {s : State} (h : (Cond.arrayClass .int).before args s = true) : ∃ c, ArrOfT s c .int ∧ va_RA s c .int := by
  obtain ⟨c, k, comp, h1, h2, h3⟩ := Cond.arrayClass_spec h
  exact ⟨c, fun n z => ⟨fun k h => (by cases h), k, h2, comp, h3⟩, h1⟩
theorem xarrZ {args : Array Value} {s : State} (h : (Cond.arrayClass .boolean).before args s = true) : ∃ c, ArrOfT s c .boolean ∧ va_RA s c .boolean := by
  obtain ⟨c, k, comp, h1, h2, h3⟩ := Cond.arrayClass_spec h
  exact ⟨c, fun n z => ⟨fun k h => (by cases h), k, h2, comp, h3⟩, h1⟩
theorem xarrJ {args : Array Value} {s : State} (h : (Cond.arrayClass .long).before args s = true) : ∃ c, ArrOfT s c .long ∧ va_RA s c .long := by
  obtain ⟨c, k, comp, h1, h2, h3⟩ := Cond.arrayClass_spec h
  exact ⟨c, fun n z => ⟨fun k h => (by cases h), k, h2, comp, h3⟩, h1⟩
theorem xarrQ {args : Array Value} {s : State} {C : String} (h : (Cond.arrayOver (.object C)).before args s = true) : ∃ c, ArrOfT s c (.object C) ∧ va_RA s c (.object C) := by
  obtain ⟨comp, c, k, h1, h2, h3, h4, h5⟩ := Cond.arrayOver_spec h
  exact ⟨c, fun n z => ⟨fun k h => (by cases h), k, h3, comp, h4⟩, k, comp, h3, h4, h1, h5⟩
theorem xarrs {args : Array Value} {s : State} (h0 : (Cond.arrayClass .int).before args s = true) (h1 : (Cond.arrayClass .boolean).before args s = true) (h2 : (Cond.arrayOver (.object "CapKernel$Capability")).before args s = true) (h3 : (Cond.arrayOver (.object "CapKernel$Client")).before args s = true) (h4 : (Cond.arrayOver (.object "java/lang/Object")).before args s = true) (h5 : (Cond.arrayClass .long).before args s = true) :
    ∃ dA : Nat → ClassId, ∀ (k : Nat) (ty : FieldType), xaty[k]? = some ty → ArrOfT s (dA k) ty ∧ va_RA s (dA k) ty := by
  obtain ⟨c0, k0⟩ := xarrI h0
  obtain ⟨c1, k1⟩ := xarrZ h1
  obtain ⟨c2, k2⟩ := xarrQ h2
  obtain ⟨c3, k3⟩ := xarrQ h3
  obtain ⟨c4, k4⟩ := xarrQ h4
  obtain ⟨c5, k5⟩ := xarrJ h5
  refine ⟨fun k => [c0, c1, c2, c3, c4, c5].getD k c0, fun k ty hk => ?_⟩
  match k, hk with
  | 0, hk => cases hk; exact k0
  | 1, hk => cases hk; exact k1
  | 2, hk => cases hk; exact k2
  | 3, hk => cases hk; exact k3
  | 4, hk => cases hk; exact k4
  | 5, hk => cases hk; exact k5
  | n + 6, hk => cases hk
theorem xaos {s : State} {args : Array Value} (h2 : (Cond.arrayOver (.object "CapKernel$Capability")).before args s = true) (h3 : (Cond.arrayOver (.object "CapKernel$Client")).before args s = true) (h4 : (Cond.arrayOver (.object "java/lang/Object")).before args s = true) : ∀ (k : Nat) (C : String), xatC k = some C → va_AO C s := by
  intro k C hk
  match k, hk with
  | 0, hk => cases hk
  | 1, hk => cases hk
  | 2, hk => cases hk; exact va_AO.of h2
  | 3, hk => cases hk; exact va_AO.of h3
  | 4, hk => cases hk; exact va_AO.of h4
  | 5, hk => cases hk
  | n + 6, hk => cases hk
theorem inst_in : Cond.instantiable "CapKernel" 7 ∈ xT ∧ Cond.instantiable "CapKernel$Capability" 7 ∈ xT ∧ Cond.instantiable "CapKernel$Client" 19 ∈ xT ∧ Cond.instantiable "CapKernel$Driver" 3 ∈ xT ∧ Cond.instantiable "CapKernel$FileServer" 5 ∈ xT ∧ Cond.instantiable "CapKernel$Thing" 11 ∈ xT ∧ Cond.instantiable "CapKernelModel" 42 ∈ xT ∧ Cond.instantiable "java/util/ArrayList" 3 ∈ xT ∧ Cond.instantiable "java/lang/IllegalArgumentException" 6 ∈ xT ∧ Cond.instantiable "java/util/NoSuchElementException" 6 ∈ xT ∧ Cond.instantiable "java/lang/UnsupportedOperationException" 6 ∈ xT ∧ Cond.instantiable "java/lang/IllegalStateException" 6 ∈ xT := by decide +kernel
theorem xknown {args : Array Value} {s : State} (hts : ∀ w ∈ xT, w.before args s = true) : ∃ D : va_G, va_K D vwCl [] s := by
  obtain ⟨n0, n1, n2, n3, n4, n5, n6, n7, n8, n9, n10, n11⟩ := inst_in
  obtain ⟨c0, i0, k0⟩ := u_known hts inC0 (hts _ n0)
  obtain ⟨c1, i1, k1⟩ := u_known hts inC1 (hts _ n1)
  obtain ⟨c2, i2, k2⟩ := u_known hts inC2 (hts _ n2)
  obtain ⟨c3, i3, k3⟩ := u_known hts inC3 (hts _ n3)
  obtain ⟨c4, i4, k4⟩ := u_known hts inC4 (hts _ n4)
  obtain ⟨c5, i5, k5⟩ := u_known hts inC5 (hts _ n5)
  obtain ⟨c6, i6, k6⟩ := u_known hts inC6 (hts _ n6)
  obtain ⟨c7, i7, k7⟩ := u_known hts inC7 (hts _ n7)
  obtain ⟨c8, i8, k8⟩ := u_known hts inC8 (hts _ n8)
  obtain ⟨c9, i9, k9⟩ := u_known hts inC9 (hts _ n9)
  obtain ⟨c10, i10, k10⟩ := u_known hts inC10 (hts _ n10)
  obtain ⟨c11, i11, k11⟩ := u_known hts inC11 (hts _ n11)
  refine ⟨(fun k => [c0, c1, c2, c3, c4, c5, c6, c7, c8, c9, c10, c11].getD k c0, fun k => [i0, i1, i2, i3, i4, i5, i6, i7, i8, i9, i10, i11].getD k i0), fun ci q hq => ?_, fun k q hk => by cases hk⟩
  match ci, hq with
  | 0, hq => cases hq; exact k0
  | 1, hq => cases hq; exact k1
  | 2, hq => cases hq; exact k2
  | 3, hq => cases hq; exact k3
  | 4, hq => cases hq; exact k4
  | 5, hq => cases hq; exact k5
  | 6, hq => cases hq; exact k6
  | 7, hq => cases hq; exact k7
  | 8, hq => cases hq; exact k8
  | 9, hq => cases hq; exact k9
  | 10, hq => cases hq; exact k10
  | 11, hq => cases hq; exact k11
  | n + 12, hq => cases hq
end LB
