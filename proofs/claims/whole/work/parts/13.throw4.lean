/-! A METHOD WITH ONE THROW does what its table's run says. -/
theorem xz_ls {z : xzs} {b : Nat} {U : State} (h : xz z b U) : xls U := h.2.2.2.2
abbrev xe0 : List Value := [.null, .null, .int 0, .null, .null, .null]
def xe1 (z : xzs) (a : Nat) : List Value := [.null, .ref a, .int 0, .null, va_rf z.2.1, va_rf z.2.2.1]
/-- the throw's place in a table: where it begins, the pool's places of its class and its constructor, the class's number -/
def xTsite (z : xzs) (K : xK) (tS idx ic ci : Nat) : Prop := xcd K tS = some (.new idx) ∧ xcd K (tS + 3) = some .dup ∧ xcd K (tS + 4) = some (.invokespecial ic) ∧ xcd K (tS + 7) = some .athrow ∧ xnw K idx = some (ci, xe0) ∧ ∃ u, xca K ic = some (2, 0, u, f_X z ci)
theorem f_X_new (z : xzs) (h : xH) (ci : Nat) : f_X z ci [.ref (xn h)] (xpush h 6 (.inr (ci, xe0))) = some (.inl none, xpush h 6 (.inr (ci, xe1 z (xn h)))) := by
  have h1 : xat (xpush h 6 (.inr (ci, xe0))) (xn h) = some (.inr (ci, xe0)) := by
    show (if xn h < h.1 then none else (h.2.2 ++ [_])[xn h - h.1]?) = _
    have e1 : ¬ xn h < h.1 := by unfold xn; omega
    have e2 : xn h - h.1 = h.2.2.length := by unfold xn; omega
    rw [if_neg e1, e2, List.getElem?_append_right (Nat.le_refl _), Nat.sub_self]
    rfl
  have h2 : xset (xpush h 6 (.inr (ci, xe0))) (xn h) (.inr (ci, xe1 z (xn h))) = xpush h 6 (.inr (ci, xe1 z (xn h))) := by
    show (h.1, h.2.1 + 6, (h.2.2 ++ [_]).set (xn h - h.1) _) = (h.1, h.2.1 + 6, h.2.2 ++ [_])
    have e2 : xn h - h.1 = h.2.2.length := by unfold xn; omega
    rw [e2, List.set_append_right _ _ (Nat.le_refl _), Nat.sub_self]
    rfl
  show (xat (xpush h 6 (.inr (ci, xe0))) (xn h)).bind _ = _
  rw [h1]
  show (xob ci (.inr (ci, xe0))).bind _ = _
  have : xob ci (.inr (ci, xe0)) = some xe0 := by simp [xob]
  rw [this]
  show (if xe0 = [.null, .null, .int 0, .null, .null, .null] then some (Sum.inl none, xset (xpush h 6 (.inr (ci, xe0))) (xn h) (.inr (ci, xe1 z (xn h)))) else none) = _
  rw [if_pos rfl, h2]
theorem xT_run {z : xzs} {K : xK} {tS idx ic ci : Nat} (T : xTsite z K tS idx ic ci) {L : xL} {st : List Value} {h : xH} {n : Nat} {r : xR} (hr : xrun K n (tS, L, st, h) = some r) : r = (.inr (xn h), xpush h 6 (.inr (ci, xe1 z (xn h)))) ∧ (st.map fun v => v.category).sum ≤ 8 := by
  obtain ⟨t0, t3, t4, t7, hn, u, hc⟩ := T
  have hr4 := xrun_add hr 4
  have s1 : xstep K (tS, L, st, h) = some (.inl (tS + 3, xmask (xmk K tS) L, .ref (xn h) :: st, xpush h 6 (.inr (ci, xe0)))) := by
    unfold xstep
    rw [t0]
    show (xnw K idx).bind _ = _
    rw [hn]
    rfl
  have s2 : ∀ L' h', xstep K (tS + 3, L', .ref (xn h) :: st, h') = some (.inl (tS + 4, xmask (xmk K (tS + 3)) L', .ref (xn h) :: .ref (xn h) :: st, h')) := by
    intro L' h'
    unfold xstep
    rw [t3]
    rfl
  have s3 : ∀ L', xstep K (tS + 4, L', .ref (xn h) :: .ref (xn h) :: st, xpush h 6 (.inr (ci, xe0))) = if xok (.ref (xn h) :: st) then some (.inl (tS + 7, xmask (xmk K (tS + 4)) L', .ref (xn h) :: st, xpush h 6 (.inr (ci, xe1 z (xn h))))) else none := by
    intro L'
    unfold xstep
    rw [t4]
    show (xca K ic).bind _ = _
    rw [hc]
    show xcall K 2 ic (tS + 4) _ _ _ = _
    unfold xcall
    rw [hc]
    show (if xok (.ref (xn h) :: st) then (f_X z ci [.ref (xn h)] (xpush h 6 (.inr (ci, xe0)))).bind (xbackI (tS + 4) (xmask (xmk K (tS + 4)) L') (.ref (xn h) :: st)) else none) = _
    rw [f_X_new]
    rfl
  have s4 : ∀ L' h', xstep K (tS + 7, L', .ref (xn h) :: st, h') = some (.inr (.inr (xn h), h')) := by
    intro L' h'
    unfold xstep
    rw [t7]
    rfl
  rw [show n + 4 = n + 3 + 1 from rfl] at hr4
  unfold xrun at hr4
  rw [s1] at hr4
  have hr4 : xrun K (n + 2 + 1) _ = some r := hr4
  unfold xrun at hr4
  rw [s2] at hr4
  have hr4 : xrun K (n + 1 + 1) _ = some r := hr4
  unfold xrun at hr4
  rw [s3] at hr4
  by_cases hok : xok (.ref (xn h) :: st)
  · rw [if_pos hok] at hr4
    have hr4 : xrun K (n + 1) _ = some r := hr4
    unfold xrun at hr4
    rw [s4] at hr4
    refine ⟨(Option.some.inj hr4).symm, ?_⟩
    have := xok_cat hok
    simp only [List.map_cons, List.sum_cons] at this
    omega
  · rw [if_neg hok] at hr4
    cases hr4
/-- a table without the throw -/
def xK0 (K : xK) (tS ic : Nat) : xK := (fun pc => if pc = tS ∨ pc = tS + 3 ∨ pc = tS + 4 ∨ pc = tS + 7 then none else xcd K pc, xmk K, xfl K, xnw K, xan K, xcc K, fun j => if j = ic then none else xca K j, xrt K)
/-- nothing but the throw itself leads into it -/
def xTsafe (K : xK) (tS ic : Nat) : Prop := ∀ pc i, xcd K pc = some i → (pc = tS ∨ pc = tS + 3 ∨ pc = tS + 4 ∨ pc = tS + 7) ∨ ((∀ d ps, i ≠ .lookupswitch d ps) ∧ (∀ off ∈ xoffs i, ∀ k, (k = 3 ∨ k = 4 ∨ k = 7) → (pc : Int) + off ≠ ((tS + k : Nat) : Int)) ∧ i ≠ .invokestatic ic ∧ i ≠ .invokevirtual ic ∧ i ≠ .invokespecial ic)
theorem xcall_K0 {K : xK} {tS ic kd idx pc : Nat} {L : xL} {st : List Value} {h : xH} (hne : idx ≠ ic) : xcall (xK0 K tS ic) kd idx pc L st h = xcall K kd idx pc L st h := by
  unfold xcall
  have : xca (xK0 K tS ic) idx = xca K idx := by
    show (if idx = ic then none else xca K idx) = _
    rw [if_neg hne]
  rw [this]
theorem xsem_K0 {K : xK} {tS ic pc : Nat} {i : xI} {L : xL} {st : List Value} {h : xH} (h1 : i ≠ .invokestatic ic) (h2 : i ≠ .invokevirtual ic) (h3 : i ≠ .invokespecial ic) : xsem (xK0 K tS ic) i pc L st h = xsem K i pc L st h := by
  unfold xsem
  have hm : xmem (xK0 K tS ic) i pc L st h = xmem K i pc L st h := rfl
  have hc : xcalls (xK0 K tS ic) i pc L st h = xcalls K i pc L st h := by
    unfold xcalls
    cases i <;> try rfl
    case invokevirtual idx =>
      have hne : idx ≠ ic := fun w => h2 (by rw [w])
      exact xcall_K0 hne
    case invokespecial idx =>
      have hne : idx ≠ ic := fun w => h3 (by rw [w])
      have : xca (xK0 K tS ic) idx = xca K idx := by
        show (if idx = ic then none else xca K idx) = _
        rw [if_neg hne]
      simp only [this, xcall_K0 hne]
    case invokestatic idx =>
      have hne : idx ≠ ic := fun w => h1 (by rw [w])
      have : xca (xK0 K tS ic) idx = xca K idx := by
        show (if idx = ic then none else xca K idx) = _
        rw [if_neg hne]
      simp only [this, xcall_K0 hne]
  rw [hm, hc]
theorem f_X_mono {z : xzs} {ci : Nat} {as : List Value} {h : xH} {r : xR} (hf : f_X z ci as h = some r) : xMono h r.2 := by
  unfold f_X at hf
  split at hf
  · obtain ⟨e, -, h2⟩ := Option.bind_eq_some_iff.mp hf
    obtain ⟨fs, -, h4⟩ := Option.bind_eq_some_iff.mp h2
    split at h4
    · cases h4
      exact xset_mono _ _ _
    · cases h4
  · cases hf
section XT
variable {z : xzs} {l : Launch} {cc : ByteArray} {nL rF rL : Nat} {own cls : String} {K : xK} {D : va_G} {dA : Nat → ClassId} {c0 : Cond} {tS idx ic ci : Nat}
/-- the class of what is thrown -/
def xTcls (own cls : String) (idx ic ci : Nat) : Prop := xthC cls ∧ Cond.classLink own idx cls ∈ xT ∧ Cond.methodLink own ic (Bundle.init0 cls) ∈ xT ∧ ∃ T : u_T, vwCl[ci]? = some (cls, T, 6) ∧ T 0 = (Bundle.tN, "backtrace", "Ljava/lang/Object;", false) ∧ T 1 = (Bundle.tN, "cause", "Ljava/lang/Throwable;", false) ∧ T 2 = (Bundle.tN, "depth", "I", false) ∧ T 3 = (Bundle.tN, "detailMessage", "Ljava/lang/String;", false) ∧ T 4 = (Bundle.tN, "stackTrace", Bundle.steD, false) ∧ T 5 = (Bundle.tN, "suppressedExceptions", Bundle.listD, false)
set_option maxHeartbeats 1000000 in
theorem x_thr1 {p : Program} {e : Env} {R : Room} {s : State} {m : MethodId} {args : Array Value} {below : List Frame} {meth : Method} {c : Code} {h0 h : xH} {st : List Value} {ls : Array Slot} {H : Heap} {locs : List Loc} (htr : l.stackTraces = false) (F : xFix z p s m args meth c cc nL (c0 :: xT) own R rF rL D dA h0) (hcl : xTcls own cls idx ic ci)
    (d0 : decode cc tS = .ok (.new idx, 3)) (d3 : decode cc (tS + 3) = .ok (.dup, 1)) (d4 : decode cc (tS + 4) = .ok (.invokespecial ic, 3)) (d7 : decode cc (tS + 7) = .ok (.athrow, 1)) (hRf : 6 < rF) (hRl : 100 ≤ rL) (hst : (st.map fun v => v.category).sum ≤ 8) (hm0 : xMono h0 h) (hls : ls.size = nL) (hA : xAt D dA s locs h H)
    (hc1 : xn h + 1 - s.heap.size ≤ R.cells) (hc2 : h.2.1 + 6 - h0.2.1 ≤ R.slots) : W p l e R s m args below meth c H locs (xn h - s.heap.size) (h.2.1 - h0.2.1) (xZ below args s D dA h0 (.inr (xn h), xpush h 6 (.inr (ci, xe1 z (xn h))))) (F0 m tS ls st) := by
  obtain ⟨S, hRR, hK, hlocks, hex, hsz⟩ := id F
  obtain ⟨hx, hb, hml, hown, hts⟩ := id S
  have hb0 : h.1 = h0.1 := hm0.1
  have hb1 : h.1 ≤ s.heap.size := by rw [hsz, hb0]; unfold xn; omega
  have hb2 : s.heap.size ≤ xn h := by rw [hsz]; exact hm0.n
  have hs0 : h0.2.1 ≤ h.2.1 := hm0.2.2
  have hts' : ∀ w ∈ xT, w.before args s = true := fun w hw => hts w (List.mem_cons_of_mem _ hw)
  obtain ⟨h1, h2, h3, T, hv, T0, T1, T2, T3, T4, T5⟩ := hcl
  have hz := hK.2.2.2
  refine xW_sized fun hzz => ?_
  have hH : H.size = xn h := x_hsize hA hb1 hb2 hzz
  have hS : va_S (fun q => h0.1 ≤ q) s.heap H locs := by have := hA.2; rw [hb0] at this; exact this
  refine x_throw (z := z) (A := fun q => h0.1 ≤ q) hx htr hb (hml.trans hls.symm) hown hts' (xz_ls hz) hz.2.1.1 hz.2.1.2 h1 h2 h3 d0 d3 d4 d7 (F.out _) hlocks (by omega) (by omega) hst (by rw [hRR.1]; exact hRf) (by rw [hRR.2]; exact hRl) hS ?_
  intro U ce L u1 u2 u3 u4 u5 u6 u7 u8 u9 u10 f0 f1 f2 f3 f4 f5
  rw [hH] at u2 u5 u6 u7 u8 f1
  have hKn := hK.1.1 ci _ hv
  have key : va_P D vwCl (xws dA (xpush h 6 (.inr (ci, xe1 z (xn h))))) U.heap := by
    rw [← xws_push dA h 6]
    refine (hA.1.kept (fun k q hq => ?_)).app (xP_one ?_)
    · exact u6 q.1 (by rw [← hH]; exact (hA.1 k q hq).lt)
    · refine ⟨_, hv, ce, u7, ?_, u10, fun k hk => ?_⟩
      · exact Option.some.inj (u9.symm.trans hKn.2.1)
      · have hsl : SlotIs s (T k).1 (T k).2.1 (T k).2.2.1 (D.2 ci k) := hKn.1 k hk
        have hk : k < 6 := hk
        rcases (by omega : k = 0 ∨ k = 1 ∨ k = 2 ∨ k = 3 ∨ k = 4 ∨ k = 5) with rfl | rfl | rfl | rfl | rfl | rfl
        · rw [T0] at hsl; exact f0 _ hsl
        · rw [T1] at hsl; exact f1 _ hsl
        · rw [T2] at hsl; exact f2 _ hsl
        · rw [T3] at hsl; exact f3 _ hsl
        · rw [T4] at hsl; exact f4 _ hsl
        · rw [T5] at hsl; exact f5 _ hsl
  refine ⟨.threw (xn h), u1, u2, ⟨rfl, key, ?_, fun q q1 q2 => ?_⟩, locs ++ L, ⟨u3, ?_⟩, fun q hq => ?_⟩
  · rw [u8]; exact Nat.le_succ_of_le hb2
  · rw [u6 q (Nat.lt_of_lt_of_le q1 hb2)]
    exact hS.2.1 q q1 q2
  · rw [show xn (xpush h 6 (.inr (ci, xe1 z (xn h)))) - s.heap.size = xn h - s.heap.size + 1 by rw [xpush_n]; omega, show (xpush h 6 (.inr (ci, xe1 z (xn h)))).2.1 - h0.2.1 = h.2.1 - h0.2.1 + 6 by show h.2.1 + 6 - h0.2.1 = _; omega]
    exact u4
  · rcases List.mem_append.mp hq with w | w
    · exact hS.2.2 q w
    · rw [u5 q w]; unfold xn; omega
set_option maxHeartbeats 1000000 in
theorem x_soundT {p : Program} {e : Env} {R : Room} {s : State} {m : MethodId} {args : Array Value} {below : List Frame} {meth : Method} {c : Code} {ini : Prop} {h0 : xH} (htr : l.stackTraces = false) (F : xFix z p s m args meth c cc nL (c0 :: xT) own R rF rL D dA h0) (G : xGood z l (xK0 K tS ic) own cc nL (c0 :: xT) ini rF rL) (hini : ini → meth.name = "<init>") (hret : meth.sig.returnType = xrt K)
    (hty0 : xaty[0]? = some .int) (hty1 : xaty[1]? = some .boolean) (T : xTsite z K tS idx ic ci) (hsafe : xTsafe K tS ic) (hcl : xTcls own cls idx ic ci) (hmo : ∀ idx c0 as h r, xca K idx = some c0 → ¬ (c0.1 = 3 ∨ c0.1 = 4) → c0.2.2.2 as h = some r → xMono h r.2)
    (d0 : decode cc tS = .ok (.new idx, 3)) (d3 : decode cc (tS + 3) = .ok (.dup, 1)) (d4 : decode cc (tS + 4) = .ok (.invokespecial ic, 3)) (d7 : decode cc (tS + 7) = .ok (.athrow, 1)) (hRf : 6 < rF) (hRl : 100 ≤ rL) : ∀ (n : Nat) (x : xX) (r : xR), xrun K n x = some r → ¬ (x.1 = tS + 3 ∨ x.1 = tS + 4 ∨ x.1 = tS + 7) → xMono h0 x.2.2.2 → xn r.2 - s.heap.size ≤ R.cells → r.2.2.1 - h0.2.1 ≤ R.slots →
    ∀ (ls : Array Slot) (H : Heap) (locs : List Loc), xlv ls nL x.2.1 → xAt D dA s locs x.2.2.2 H → W p l e R s m args below meth c H locs (xn x.2.2.2 - s.heap.size) (x.2.2.2.2.1 - h0.2.1) (xZ below args s D dA h0 r) (F0 m x.1 ls x.2.2.1)
  | 0, _, _, hr, _, _, _, _, _, _, _, _, _ => by simp [xrun] at hr
  | n + 1, x, r, hr, hnx, hm0, hrc, hrs, ls, H, locs, hl0, hA => by
    by_cases ht : x.1 = tS
    · obtain ⟨pc, L0, st, h⟩ := x
      have ht : pc = tS := ht
      subst ht
      obtain ⟨rfl, hst⟩ := xT_run T hr
      have hrc : xn (xpush h 6 (.inr (ci, xe1 z (xn h)))) - s.heap.size ≤ R.cells := hrc
      rw [xpush_n] at hrc
      exact x_thr1 htr F hcl d0 d3 d4 d7 hRf hRl hst hm0 hl0.1.1 hA hrc hrs
    · have hmono := x_mono hmo (n + 1) x r hr
      unfold xrun at hr
      obtain ⟨y, h1, h2⟩ := Option.bind_eq_some_iff.mp hr
      obtain ⟨i, hi, h4⟩ := Option.bind_eq_some_iff.mp h1
      rcases hsafe _ _ hi with w | ⟨k1, k2, k3, k4, k5⟩
      · exact absurd (w.resolve_left ht) hnx
      have hs0 : xstep (xK0 K tS ic) x = some y := by
        have hi0 : xcd (xK0 K tS ic) x.1 = some i := by
          show (if x.1 = tS ∨ x.1 = tS + 3 ∨ x.1 = tS + 4 ∨ x.1 = tS + 7 then none else xcd K x.1) = _
          rw [if_neg (fun w => w.elim ht hnx), hi]
        unfold xstep
        rw [hi0]
        show xsem (xK0 K tS ic) i x.1 (xmask (xmk K x.1) x.2.1) x.2.2.1 x.2.2.2 = some y
        rw [xsem_K0 k3 k4 k5]
        exact h4
      rcases x_one (p := p) (e := e) (R := R) (below := below) (Q := xZ below args s D dA h0 r) F G hini hret hty0 hty1 hs0 hm0 hl0 hA with ⟨x', rfl, hm, step⟩ | ⟨r', rfl, hm, step⟩
      · have hx' : ¬ (x'.1 = tS + 3 ∨ x'.1 = tS + 4 ∨ x'.1 = tS + 7) := by
          obtain ⟨off, ho, hq⟩ := xsem_to (K := K) (L := xmask (xmk K x.1) x.2.1) (st := x.2.2.1) (h := x.2.2.2) k1 x' h4
          rintro (w | w | w)
          · exact k2 off ho 3 (Or.inl rfl) (by rw [hq, w])
          · exact k2 off ho 4 (Or.inr (Or.inl rfl)) (by rw [hq, w])
          · exact k2 off ho 7 (Or.inr (Or.inr rfl)) (by rw [hq, w])
        have k6 := x_mono hmo n x' r h2
        have k7 := k6.n
        have k8 := k6.2.2
        exact step (by omega) (by omega) (fun ls' H' locs' hl' hA' => x_soundT htr F G hini hret hty0 hty1 T hsafe hcl hmo d0 d3 d4 d7 hRf hRl n x' r h2 hx' (hm0.trans hm) hrc hrs ls' H' locs' hl' hA')
      · cases h2
        exact step hrc hrs
end XT
