/-! THE LISTS' STEPS, one a kind. -/
section XSR
variable {z : xzs} {l : Launch} {cc : ByteArray} {nL rF rL pc idx : Nat} {c0 : Cond} {own : String}
abbrev xgcn : MethodName := ⟨"java/lang/Object", "getClass", "()Ljava/lang/Class;"⟩
theorem xup {w : Cond} (h : w ∈ xT) : w ∈ c0 :: xT := List.mem_cons_of_mem _ h
theorem sok_gets (w : Cond.fieldLink own idx "java/util/ArrayList" "DEFAULTCAPACITY_EMPTY_ELEMENTDATA" "[Ljava/lang/Object;" ∈ xT) (hd : decode cc pc = .ok (.getstatic idx, 3)) : xSpM (sp_gets (.ref z.1)) ∧ xSpO z l own cc nL (c0 :: xT) rF rL (sp_gets (.ref z.1)) pc := by
  refine ⟨sm_gets _, ?_⟩
  intro p e R s m args below meth c Q h0 D dA F x x' hpc hg hm0 ls H locs hl hA _ _ k
  obtain ⟨pc', L, st, h⟩ := x
  cases hg
  have hpc : pc' = pc := hpc
  subst hpc
  obtain ⟨⟨hx, hb, hml, hown, hts⟩, hRR, hK, hlocks, hex, hsz⟩ := F
  have hb0 : h.1 = h0.1 := hm0.1
  have hK' : xk z D dA h.1 s := by rw [hb0]; exact hK
  exact va_gets hx hb hK'.2.2.2.1.1 hA.2 hown (hts _ (xup w)) (fun _ z => z) hd (k ls H locs hl hA)
theorem sok_ldcI {v : Int32} (w : Cond.constant own idx v ∈ xT) (hd : decode cc pc = .ok (.ldc idx, 2)) : xSpM (sp_ldc (.int v)) ∧ xSpO z l own cc nL (c0 :: xT) rF rL (sp_ldc (.int v)) pc := by
  refine ⟨sm_ldc _, ?_⟩
  intro p e R s m args below meth c Q h0 D dA F x x' hpc hg hm0 ls H locs hl hA _ _ k
  obtain ⟨pc', L, st, h⟩ := x
  cases hg
  have hpc : pc' = pc := hpc
  subst hpc
  obtain ⟨⟨hx, hb, hml, hown, hts⟩, hRR, hK, hlocks, hex, hsz⟩ := F
  exact lv_ldc hx hb hown (hts _ (xup w)) hd (k ls H locs hl hA)
theorem sok_ldcM (w : Cond.classLink own idx "[Ljava/lang/Object;" ∈ xT) (hd : decode cc pc = .ok (.ldc idx, 2)) : xSpM (sp_ldc (.ref z.2.2.2)) ∧ xSpO z l own cc nL (c0 :: xT) rF rL (sp_ldc (.ref z.2.2.2)) pc := by
  refine ⟨sm_ldc _, ?_⟩
  intro p e R s m args below meth c Q h0 D dA F x x' hpc hg hm0 ls H locs hl hA _ _ k
  obtain ⟨pc', L, st, h⟩ := x
  cases hg
  have hpc : pc' = pc := hpc
  subst hpc
  obtain ⟨⟨hx, hb, hml, hown, hts⟩, hRR, hK, hlocks, hex, hsz⟩ := F
  exact va_ldcM hx hb hown (hts _ (xup w)) hK.2.2.2.2.2.1 hd (k ls H locs hl hA)
theorem sok_alen (hd : decode cc pc = .ok (.arraylength, 1)) : xSpM (sp_alen z.1) ∧ xSpO z l own cc nL (c0 :: xT) rF rL (sp_alen z.1) pc := by
  refine ⟨sm_alen _, ?_⟩
  intro p e R s m args below meth c Q h0 D dA F x x' hpc hg hm0 ls H locs hl hA _ _ k
  obtain ⟨pc', L, st, h⟩ := x
  have hpc : pc' = pc := hpc
  subst hpc
  obtain ⟨⟨a, t⟩, e1, hg⟩ := Option.bind_eq_some_iff.mp hg
  split at hg
  · rename_i ha
    cases hg
    have e1 := xpopa_eq e1
    have e1 : st = .ref a :: t := e1
    subst e1
    have ha : a = z.1 := ha
    subst ha
    obtain ⟨⟨hx, hb, hml, hown, hts⟩, hRR, hK, hlocks, hex, hsz⟩ := F
    have hb0 : h.1 = h0.1 := hm0.1
    have hK' : xk z D dA h.1 s := by rw [hb0]; exact hK
    obtain ⟨cell, g1, g2, g3, g4, g5, g6, g7⟩ := hK'.2.2.2.1.2
    exact W.alen (n := Int32.ofNat 0) hx hb (by rw [hA.2.2.1 z.1 (Array.getElem?_eq_some_iff.mp g1).1 g7]; exact g1) g2 g5 rfl rfl hd (k ls H locs hl hA)
  · cases hg
theorem sok_get (w : Cond.fieldLink own idx "java/util/ArrayList" "modCount" "I" ∈ xT) (w2 : Cond.sameField "java/util/ArrayList" "java/util/AbstractList" "modCount" "I" ∈ xT) (hd : decode cc pc = .ok (.getfield idx, 3)) : xSpM (sp_get 7 1) ∧ xSpO z l own cc nL (c0 :: xT) rF rL (sp_get 7 1) pc := by
  refine ⟨sm_get _ _, ?_⟩
  intro p e R s m args below meth c Q h0 D dA F x x' hpc hg hm0 ls H locs hl hA _ _ k
  obtain ⟨pc', L, st, h⟩ := x
  have hpc : pc' = pc := hpc
  subst hpc
  obtain ⟨⟨a, t⟩, e1, hg⟩ := Option.bind_eq_some_iff.mp hg
  obtain ⟨v, e2, hg⟩ := Option.bind_eq_some_iff.mp hg
  cases hg
  have e1 : st = .ref a :: t := xpopa_eq e1
  subst e1
  obtain ⟨⟨hx, hb, hml, hown, hts⟩, hRR, hK, hlocks, hex, hsz⟩ := F
  obtain ⟨fs, r2, r3⟩ := xrd_eq e2
  exact va_get (C := "java/util/ArrayList") (T := TC7) (N := 3) (ref := "java/util/ArrayList") hx hb hts (fun w h => xup (inC7 w h)) hown hK.1 hA.1 (a - h.1) (xws_at dA r2) rfl 1 (by decide) (hts _ (xup w)) (u_same (hts _ (xup w2))) r3 hd (k ls H locs hl hA)
theorem sok_put (w : Cond.fieldLink own idx "java/util/ArrayList" "modCount" "I" ∈ xT) (w2 : Cond.sameField "java/util/ArrayList" "java/util/AbstractList" "modCount" "I" ∈ xT) (hd : decode cc pc = .ok (.putfield idx, 3)) : xSpM (sp_put 7 1) ∧ xSpO z l own cc nL (c0 :: xT) rF rL (sp_put 7 1) pc := by
  refine ⟨sm_put _ _, ?_⟩
  intro p e R s m args below meth c Q h0 D dA F x x' hpc hg hm0 ls H locs hl hA _ _ k
  obtain ⟨pc', L, st, h⟩ := x
  have hpc : pc' = pc := hpc
  subst hpc
  obtain ⟨⟨v, t0⟩, e0, hg⟩ := Option.bind_eq_some_iff.mp hg
  obtain ⟨⟨a, t⟩, e1, hg⟩ := Option.bind_eq_some_iff.mp hg
  obtain ⟨h', e2, hg⟩ := Option.bind_eq_some_iff.mp hg
  cases hg
  have e1 : t0 = .ref a :: t := xpopa_eq e1
  subst e1
  have e0 : st = .int v :: .ref a :: t := xpopi_eq e0
  subst e0
  obtain ⟨⟨hx, hb, hml, hown, hts⟩, hRR, hK, hlocks, hex, hsz⟩ := F
  obtain ⟨fs, r2, r3, rfl⟩ := xwr_eq e2
  have ha := (xat_at r2).1
  refine va_put (C := "java/util/ArrayList") (T := TC7) (N := 3) (ref := "java/util/ArrayList") (ty := .int) hx hb hts (fun w h => xup (inC7 w h)) tC7 okC7 nmC7 hown hK.1 hA.1 (xws_D dA h) hA.2 (a - h.1) (xws_at dA r2) rfl 1 (by decide) (hts _ (xup w)) (u_same (hts _ (xup w2))) rfl (okC7 1 (by decide)) rfl rfl r3 hd (fun H1 locs1 hP1 _ hS1 => ?_)
  have := xws_set dA (.inr (7, fs.set 1 (.int v))) ha
  refine xW_ix (by rw [xset_n]) rfl (k ls H1 locs1 hl ⟨?_, hS1⟩)
  rw [← this]
  exact hP1
theorem sok_getC (w : Cond.methodLink own idx xgcn ∈ xT) (w2 : Cond.selects "[Ljava/lang/Object;" xgcn xgcn ∈ xT) (w3 : Cond.instanceMethod xgcn ∈ xT) (w4 : Cond.native xgcn ∈ xT) (hF : 1 ≤ rF) (hL : 22 ≤ rL) (hd : decode cc pc = .ok (.invokevirtual idx, 3)) : xSpM (sp_getC z.2.2.2) ∧ xSpO z l own cc nL (c0 :: xT) rF rL (sp_getC z.2.2.2) pc := by
  refine ⟨sm_getC _, ?_⟩
  intro p e R s m args below meth c Q h0 D dA F x x' hpc hg hm0 ls H locs hl hA _ _ k
  obtain ⟨pc', L, st, h⟩ := x
  have hpc : pc' = pc := hpc
  subst hpc
  obtain ⟨⟨a, t⟩, e1, hg⟩ := Option.bind_eq_some_iff.mp hg
  obtain ⟨ec, e2, hg⟩ := Option.bind_eq_some_iff.mp hg
  obtain ⟨⟨cq, n, f⟩, e3, hg⟩ := Option.bind_eq_some_iff.mp hg
  split at hg
  · rename_i hc
    obtain ⟨hc4, htl⟩ := hc
    have hc4 : cq = 4 := hc4
    subst hc4
    cases hg
    have e1 : st = .ref a :: t := xpopa_eq e1
    subst e1
    have htl : t.length ≤ 4 := htl
    obtain ⟨⟨hx, hb, hml, hown, hts⟩, hRR, hK, hlocks, hex, hsz⟩ := F
    have e2 : xat h a = some ec := e2
    rw [xaq_obs e3] at e2
    have hcell := hA.1 (a - h.1) _ (xws_at dA e2)
    have hcat := xcat_sum t
    exact va_getC (C := "[Ljava/lang/Object;") hx hb (hml.trans hl.1.1.symm) hown (hts _ (xup w)) hK.2.2.2.2.2.2.1.use (hts _ (xup w2)) (hts _ (xup w3)) (hts _ (xup w4)) hK.2.2.2.2.2.1 ⟨_, hcell, rfl, va_nmO (hK.2.1 4 _ rfl).2 (by decide)⟩ (by rw [hRR.1]; exact hF) (by rw [hRR.2]; omega) hd (k ls H locs hl hA)
  · cases hg
theorem xasg {args : Array Value} {s : State} (hts : ∀ w ∈ xT, w.before args s = true) (w1 : Cond.superclass "CapKernel$Capability" "java/lang/Object" ∈ xT) (w2 : Cond.selects "[Ljava/lang/Object;" xgcn xgcn ∈ xT) : ∀ comp c0 : ClassId, s.vm.findClass "java/lang/Object" = some comp → s.vm.findClass "CapKernel$Capability" = some c0 → s.vm.assignable c0 comp = true := by
  intro comp c0 h1 h2
  obtain ⟨p, k, kp, e1, e2, e3, e4, e5, e6, e7⟩ := Cond.superclass_spec h2 (hts _ w1)
  cases h1.symm.trans e1
  have hni : kp.isInterface = false := by
    obtain ⟨c2, r2, m2, q1, q2, q3, q4, kP, hkP, hkPi⟩ := Cond.selects_spec (hts _ w2)
    have := findClass_of_methodNamed q3
    cases h1.symm.trans this
    cases e3.symm.trans hkP
    exact hkPi
  have hlt : (0 : Nat) < s.vm.classes.size := Nat.lt_of_le_of_lt (Nat.zero_le _) (Array.getElem?_eq_some_iff.mp e2).1
  have hsub : s.vm.isSubclass c0 comp = true := by
    unfold Vm.isSubclass
    obtain ⟨n, hn⟩ : ∃ n, s.vm.classes.size = n + 1 := ⟨s.vm.classes.size - 1, by omega⟩
    rw [hn]
    simp [Vm.isSubclassAux, e2, e4]
  unfold Vm.assignable
  simp [Vm.assignableAux, e2, e3, e5, e6, hni, hsub]
theorem sok_aast (w1 : Cond.superclass "CapKernel$Capability" "java/lang/Object" ∈ xT) (w2 : Cond.selects "[Ljava/lang/Object;" xgcn xgcn ∈ xT) (hd : decode cc pc = .ok (.aastore, 1)) : xSpM sp_aast ∧ xSpO z l own cc nL (c0 :: xT) rF rL sp_aast pc := by
  refine ⟨sm_aast, ?_⟩
  intro p e R s m args below meth c Q h0 D dA F x x' hpc hg hm0 ls H locs hl hA _ _ k
  obtain ⟨pc', L, st, h⟩ := x
  have hpc : pc' = pc := hpc
  subst hpc
  obtain ⟨⟨v, t0⟩, e0, hg⟩ := Option.bind_eq_some_iff.mp hg
  obtain ⟨⟨i, t1⟩, e1, hg⟩ := Option.bind_eq_some_iff.mp hg
  obtain ⟨⟨a, t⟩, e2, hg⟩ := Option.bind_eq_some_iff.mp hg
  obtain ⟨h', e3, hg⟩ := Option.bind_eq_some_iff.mp hg
  cases hg
  have e2 : t1 = .ref a :: t := xpopa_eq e2
  subst e2
  have e1 : t0 = .int i :: .ref a :: t := xpopi_eq e1
  subst e1
  have e0 : st = .ref v :: .int i :: .ref a :: t := xpopa_eq e0
  subst e0
  obtain ⟨⟨hx, hb, hml, hown, hts⟩, hRR, hK, hlocks, hex, hsz⟩ := F
  obtain ⟨n, f, fs, r1, hin, r2, rfl⟩ := spQ_eq e3
  have ha := (xat_at r1).1
  have hK' : xk z D dA h.1 s := by rw [show h.1 = h0.1 from hm0.1]; exact hK
  refine vb_astq (C := "CapKernel$Capability") (E := "java/lang/Object") hx hb (hK'.arr (k := 4) rfl) hA.1 (xws_D dA h) hA.2 (a - h.1) 0 (xws_at dA r1) rfl (va_recv hK'.1 hA.1 (q := ("CapKernel$Capability", TC1, 7)) rfl (xws_at dA r2)) (xasg (fun w hw => hts w (xup hw)) w1 w2) hin hd (fun H1 locs1 hP1 _ hS1 => ?_)
  refine xW_ix (by rw [xset_n]) rfl (k ls H1 locs1 hl ⟨?_, hS1⟩)
  rw [← xws_set dA _ ha]
  exact hP1
theorem sok_copy (w1 : Cond.superclass "CapKernel$Capability" "java/lang/Object" ∈ xT) (w2 : Cond.selects "[Ljava/lang/Object;" xgcn xgcn ∈ xT) (g1 : Cond.methodLink own idx arraycopyName ∈ xT) (g2 : Cond.native arraycopyName ∈ xT) (g3 : Cond.static arraycopyName ∈ xT) (g4 : Cond.initialized "java/lang/System" ∈ xT) (hF : 1 ≤ rF) (hL : 8 + (nativeFrameWords "java/lang/System" "arraycopy" 5 + 11) ≤ rL) (hd : decode cc pc = .ok (.invokestatic idx, 3)) : xSpM sp_copy ∧ xSpO z l own cc nL (c0 :: xT) rF rL sp_copy pc := by
  refine ⟨sm_copy, ?_⟩
  intro p e R s m args below meth c Q h0 D dA F x x' hpc hg hm0 ls H locs hl hA _ _ k
  obtain ⟨pc', L, st, h⟩ := x
  have hpc : pc' = pc := hpc
  subst hpc
  obtain ⟨⟨n, t0⟩, e0, hg⟩ := Option.bind_eq_some_iff.mp hg
  obtain ⟨⟨dp, t1⟩, e1, hg⟩ := Option.bind_eq_some_iff.mp hg
  obtain ⟨⟨d, t2⟩, e2, hg⟩ := Option.bind_eq_some_iff.mp hg
  obtain ⟨⟨sp, t3⟩, e3, hg⟩ := Option.bind_eq_some_iff.mp hg
  obtain ⟨⟨sr, t⟩, e4, hg⟩ := Option.bind_eq_some_iff.mp hg
  obtain ⟨h', e5, hg⟩ := Option.bind_eq_some_iff.mp hg
  split at hg
  · rename_i htl
    have htl : t.length ≤ 4 := htl
    cases hg
    have e4 : t3 = .ref sr :: t := xpopa_eq e4
    subst e4
    have e3 : t2 = .int sp :: .ref sr :: t := xpopi_eq e3
    subst e3
    have e2 : t1 = .ref d :: .int sp :: .ref sr :: t := xpopa_eq e2
    subst e2
    have e1 : t0 = .int dp :: .ref d :: .int sp :: .ref sr :: t := xpopi_eq e1
    subst e1
    have e0 : st = .int n :: .int dp :: .ref d :: .int sp :: .ref sr :: t := xpopi_eq e0
    subst e0
    obtain ⟨⟨hx, hb, hml, hown, hts⟩, hRR, hK, hlocks, hex, hsz⟩ := F
    obtain ⟨ns, fs, nd, fd, r1, r2, ⟨k1, k2, k3, k4, k5, k6⟩, rfl⟩ := spC_eq e5
    have ha := (xat_at r2).1
    have hK' : xk z D dA h.1 s := by rw [show h.1 = h0.1 from hm0.1]; exact hK
    have hcat := xcat_sum t
    refine va_copyq (tys := [(dA 4, .object "java/lang/Object")]) (C := "CapKernel$Capability") (E0 := "java/lang/Object") (E1 := "java/lang/Object") hx hb (hml.trans hl.1.1.symm) hown (hts _ (xup g1)) (hts _ (xup g2)) (hts _ (xup g3)) (hts _ (xup g4)) (hK'.arr (k := 4) rfl) hA.1 (xws_D dA h) hA.2 (sr - h.1) (d - h.1) 0 0 (xws_at dA r1) (xws_at dA r2) rfl rfl k1 k2 k3 k4 k5 (fun i hi y hy => ?_) (xasg (fun w hw => hts w (xup hw)) w1 w2) (by rw [hRR.1]; exact hF) (by rw [hRR.2]; omega) hd (fun H1 locs1 hP1 _ hS1 => ?_)
    · have k6 : xcaps h (sp.toNatClampNeg + n.toNatClampNeg) fs = true := k6
      unfold xcaps at k6
      rw [List.all_eq_true] at k6
      have := k6 (sp.toNatClampNeg + i) (List.mem_range.mpr (Nat.add_lt_add_left hi _))
      rw [hy] at this
      dsimp only at this
      cases hO : xisO h y 1 with
      | none => rw [hO] at this; cases this
      | some u =>
        obtain ⟨ys, hy2⟩ := xisO_1 hO
        exact va_recv hK'.1 hA.1 (q := ("CapKernel$Capability", TC1, 7)) rfl (xws_at dA hy2)
    · refine xW_ix (by rw [xset_n]) rfl (k ls H1 locs1 hl ⟨?_, hS1⟩)
      rw [← xws_set dA _ ha]
      exact hP1
  · cases hg
theorem sok_max (w1 : Cond.methodLink own idx Lib.Math.max.name ∈ xT) (w2 : Cond.static Lib.Math.max.name ∈ xT) (w3 : Cond.initialized "java/lang/Math" ∈ xT) (w4 : Cond.code Lib.Math.max.name Lib.Math.max.code 2 (some .int) ∈ xT) (hF : 1 ≤ rF) (hL : 21 ≤ rL) (hd : decode cc pc = .ok (.invokestatic idx, 3)) : xSpM sp_max ∧ xSpO z l own cc nL (c0 :: xT) rF rL sp_max pc := by
  refine ⟨sm_max, ?_⟩
  intro p e R s m args below meth c Q h0 D dA F x x' hpc hg hm0 ls H locs hl hA q1 q2 k
  obtain ⟨pc', L, st, h⟩ := x
  have hpc : pc' = pc := hpc
  subst hpc
  obtain ⟨⟨y, t0⟩, e0, hg1⟩ := Option.bind_eq_some_iff.mp hg
  obtain ⟨⟨v, t⟩, e1, hg2⟩ := Option.bind_eq_some_iff.mp hg1
  split at hg2
  · rename_i htl
    have htl : t.length ≤ 4 := htl
    cases hg2
    have e1 : t0 = .int v :: t := xpopi_eq e1
    subst e1
    have e0 : st = .int y :: .int v :: t := xpopi_eq e0
    subst e0
    obtain ⟨⟨hx, hb, hml, hown, hts⟩, hRR, hK, hlocks, hex, hsz⟩ := F
    have hcat := xcat_sum t
    exact va_mmax hx hb (hml.trans hl.1.1.symm) hown (hts _ (xup w1)) (hts _ (xup w2)) (hts _ (xup w3)) (hts _ (xup w4)) (by rw [hRR.1]; exact hF) (by rw [hRR.2]; omega) q1 q2 hd (k ls H locs hl hA)
  · cases hg2
theorem sok_min (w1 : Cond.methodLink own idx Lib.Math.min.name ∈ xT) (w2 : Cond.static Lib.Math.min.name ∈ xT) (w3 : Cond.initialized "java/lang/Math" ∈ xT) (w4 : Cond.code Lib.Math.min.name Lib.Math.min.code 2 (some .int) ∈ xT) (hF : 1 ≤ rF) (hL : 21 ≤ rL) (hd : decode cc pc = .ok (.invokestatic idx, 3)) : xSpM sp_min ∧ xSpO z l own cc nL (c0 :: xT) rF rL sp_min pc := by
  refine ⟨sm_min, ?_⟩
  intro p e R s m args below meth c Q h0 D dA F x x' hpc hg hm0 ls H locs hl hA q1 q2 k
  obtain ⟨pc', L, st, h⟩ := x
  have hpc : pc' = pc := hpc
  subst hpc
  obtain ⟨⟨y, t0⟩, e0, hg1⟩ := Option.bind_eq_some_iff.mp hg
  obtain ⟨⟨v, t⟩, e1, hg2⟩ := Option.bind_eq_some_iff.mp hg1
  split at hg2
  · rename_i htl
    have htl : t.length ≤ 4 := htl
    cases hg2
    have e1 : t0 = .int v :: t := xpopi_eq e1
    subst e1
    have e0 : st = .int y :: .int v :: t := xpopi_eq e0
    subst e0
    obtain ⟨⟨hx, hb, hml, hown, hts⟩, hRR, hK, hlocks, hex, hsz⟩ := F
    have hcat := xcat_sum t
    exact va_mmin hx hb (hml.trans hl.1.1.symm) hown (hts _ (xup w1)) (hts _ (xup w2)) (hts _ (xup w3)) (hts _ (xup w4)) (by rw [hRR.1]; exact hF) (by rw [hRR.2]; omega) q1 q2 hd (k ls H locs hl hA)
  · cases hg2
end XSR
