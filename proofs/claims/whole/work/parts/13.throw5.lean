/-! The same, out of tables. -/
def xnl : xI → Bool
  | .lookupswitch _ _ => false
  | _ => true
def xTchk (tb : List (Nat × xI)) (tS ic : Nat) : Prop := ∀ e ∈ tb, (e.1 = tS ∨ e.1 = tS + 3 ∨ e.1 = tS + 4 ∨ e.1 = tS + 7) ∨ (xnl e.2 = true ∧ (∀ off ∈ xoffs e.2, (e.1 : Int) + off ≠ ((tS + 3 : Nat) : Int) ∧ (e.1 : Int) + off ≠ ((tS + 4 : Nat) : Int) ∧ (e.1 : Int) + off ≠ ((tS + 7 : Nat) : Int)) ∧ e.2 ≠ .invokestatic ic ∧ e.2 ≠ .invokevirtual ic ∧ e.2 ≠ .invokespecial ic)
theorem xCt_ofT {z : xzs} {l : Launch} {own cls : String} {cc : ByteArray} {nL rF rL : Nat} {y : MethodName} {tb : List (Nat × xI)} {mk : Nat → Option (List Nat)} {fl : List (Nat × (Nat × Nat × FieldType × Nat))} {nw : List (Nat × (Nat × List Value))} {an cs : List (Nat × Nat)} {ca : List (Nat × xC)} {rt : Option FieldType} (tS idx ic ci u : Nat) (htr : l.stackTraces = false)
    (hy : plainName y.cls = true) (hown : y.cls = own) (hi : Cond.arrayClass .int ∈ xT) (hz : Cond.arrayClass .boolean ∈ xT) (ck : xchk cc nL tb = true) (gf : ∀ e ∈ fl, xGf own xT False e.1 e.2) (gn : ∀ e ∈ nw, xGn own xT e.1 e.2) (ga : ∀ e ∈ an, xGa own xT e.1 e.2) (gc : ∀ e ∈ cs, xGc own xT e.1 e.2)
    (gk : ∀ e ∈ ca, e.1 = ic ∨ xGcall z l own (Cond.code y cc nL rt :: xT) rF rL e.1 e.2) (hic : xlook ca ic = some (2, 0, u, f_X z ci)) (t0 : xlook tb tS = some (.new idx)) (t3 : xlook tb (tS + 3) = some .dup) (t4 : xlook tb (tS + 4) = some (.invokespecial ic)) (t7 : xlook tb (tS + 7) = some .athrow) (hnw : xlook nw idx = some (ci, xe0)) (hsafe : xTchk tb tS ic)
    (hcl : xTcls own cls idx ic ci) (hRf : 6 < rF) (hRl : 100 ≤ rL) (hty0 : xaty[0]? = some .int) (hty1 : xaty[1]? = some .boolean) : xCt z l y (Cond.code y cc nL rt :: xT) rF rL (xfun (xlook tb, mk, xlook fl, xlook nw, xlook an, xlook cs, xlook ca, rt) nL) := by
  have up : ∀ w ∈ xT, w ∈ Cond.code y cc nL rt :: xT := fun w h => List.mem_cons_of_mem _ h
  generalize hKe : ((xlook tb, mk, xlook fl, xlook nw, xlook an, xlook cs, xlook ca, rt) : xK) = K
  have T : xTsite z K tS idx ic ci := by
    subst hKe
    exact ⟨t0, t3, t4, t7, hnw, u, hic⟩
  have safe : xTsafe K tS ic := by
    subst hKe
    intro pc i hi
    rcases hsafe _ (xlook_mem hi) with w | ⟨k1, k2, k3⟩
    · exact Or.inl w
    · refine Or.inr ⟨fun d ps w => ?_, fun off ho k hk => ?_, k3⟩
      · have w : i = .lookupswitch d ps := w
        have k1 : xnl i = true := k1
        rw [w] at k1
        cases k1
      · obtain ⟨q1, q2, q3⟩ := k2 off ho
        rcases hk with rfl | rfl | rfl
        · exact q1
        · exact q2
        · exact q3
  have G : xGood z l (xK0 K tS ic) own cc nL (Cond.code y cc nL rt :: xT) False rF rL := by
    subst hKe
    refine ⟨fun pc i h => ?_, fun idx f h => xGf_mono up id (gf _ (xlook_mem h)), fun idx f h => xGn_mono up (gn _ (xlook_mem h)), fun idx kd h => xGa_mono up (ga _ (xlook_mem h)), fun idx ci h => xGc_mono up (gc _ (xlook_mem h)), fun idx c h => ?_⟩
    · have h : (if pc = tS ∨ pc = tS + 3 ∨ pc = tS + 4 ∨ pc = tS + 7 then none else xlook tb pc) = some i := h
      split at h
      · cases h
      · obtain ⟨h1, h2⟩ := xchk_ok ck h
        exact ⟨h1, h2, fun _ => up _ hi, fun _ => up _ hz⟩
    · have h : (if idx = ic then none else xlook ca idx) = some c := h
      split at h
      · cases h
      · rename_i hne
        exact (gk _ (xlook_mem h)).resolve_left hne
  have hmo : ∀ idx c0 as h r, xca K idx = some c0 → ¬ (c0.1 = 3 ∨ c0.1 = 4) → c0.2.2.2 as h = some r → xMono h r.2 := by
    intro j c0 as h r h1 h2 h3
    by_cases hj : j = ic
    · obtain ⟨-, -, -, -, -, u', hc⟩ := T
      rw [hj, hc] at h1
      cases h1
      exact f_X_mono h3
    · refine G.mono j c0 as h r ?_ h2 h3
      show (if j = ic then none else xca K j) = _
      rw [if_neg hj, h1]
  have hrt : xrt K = rt := by subst hKe; rfl
  have dd : ∀ {pc i}, xlook tb pc = some i → ¬ xlen i = 0 → decode cc pc = .ok (i, xlen i) := fun h hn => (xchk_ok ck h).1.len hn
  intro as h r hf
  unfold xfun at hf
  split at hf
  · rename_i hc
    obtain ⟨hlen, hcat⟩ := hc
    obtain ⟨n, hr⟩ := xev_run hf
    have hmo' := x_mono hmo n _ r hr
    have hpc : ¬ ((0 : Nat) = tS + 3 ∨ 0 = tS + 4 ∨ 0 = tS + 7) := by omega
    refine ⟨hmo', fun D dA => ⟨fun v hv => ?_, fun a hv => ?_⟩⟩
    · refine Met.ofW (cc := cc) (maxL := nL) (ret := rt) hy rfl ?_
      intro p e s m args below meth c s₁ B hml hv0
      obtain ⟨rfl, ⟨hsz, hP⟩, hK⟩ := hv0
      have hts := atoms_spec (ws := Cond.code y cc nL rt :: xT) B.pre
      have hnm : s.vm.findClass own = some m.cls := by rw [← hown]; exact findClass_of_methodNamed B.named
      have hex : c.exceptionTable.isEmpty = true := B.noHandlers (hts _ List.mem_cons_self)
      obtain ⟨ha1, ha2, ha3⟩ := xargs_eq as 0 hcat
      have F : xFix z p s m as.toArray meth c cc nL (Cond.code y cc nL rt :: xT) own (headSpec (Cond.code y cc nL rt :: xT) (xRm rF rL h r.2)).room rF rL D dA h := ⟨⟨B.exec, B.bytes, hml, hnm, hts⟩, ⟨rfl, rfl⟩, hK, B.notSynchronized, hex, hsz⟩
      have hl := lv_entry as (n := nL) (by rw [ha2]; exact hlen)
      rw [lg_entry_eq]
      generalize (lg_sl as ++ List.replicate (nL - (lg_sl as).length) Slot.unset).toArray = ls at hl ⊢
      rw [ha1] at hl
      have key := x_soundT (e := e) (below := below) htr F G False.elim (hrt.symm ▸ B.returns) hty0 hty1 T safe hcl hmo (dd t0 (by simp [xlen])) (dd t3 (by simp [xlen])) (dd t4 (by simp [xlen])) (dd t7 (by simp [xlen])) hRf hRl n _ r hr hpc (xMono.rfl' h) (by rw [hsz]; exact Nat.le_refl _) (Nat.le_refl _) ls s.heap [] ⟨hl, ha3⟩ ⟨hP, va_S.rf⟩
      unfold xZ at key
      rw [hv] at key
      rw [hsz] at key
      simp only [Nat.sub_self] at key
      exact key
    · refine MetT.ofW (cc := cc) (maxL := nL) (ret := rt) hy rfl ?_
      intro p e s m args below meth c s₁ B hml hv0
      obtain ⟨rfl, ⟨hsz, hP⟩, hK⟩ := hv0
      have hts := atoms_spec (ws := Cond.code y cc nL rt :: xT) B.pre
      have hnm : s.vm.findClass own = some m.cls := by rw [← hown]; exact findClass_of_methodNamed B.named
      have hex : c.exceptionTable.isEmpty = true := B.noHandlers (hts _ List.mem_cons_self)
      obtain ⟨ha1, ha2, ha3⟩ := xargs_eq as 0 hcat
      have F : xFix z p s m as.toArray meth c cc nL (Cond.code y cc nL rt :: xT) own (headSpec (Cond.code y cc nL rt :: xT) (xRm rF rL h r.2)).room rF rL D dA h := ⟨⟨B.exec, B.bytes, hml, hnm, hts⟩, ⟨rfl, rfl⟩, hK, B.notSynchronized, hex, hsz⟩
      have hl := lv_entry as (n := nL) (by rw [ha2]; exact hlen)
      rw [lg_entry_eq]
      generalize (lg_sl as ++ List.replicate (nL - (lg_sl as).length) Slot.unset).toArray = ls at hl ⊢
      rw [ha1] at hl
      have key := x_soundT (e := e) (below := below) htr F G False.elim (hrt.symm ▸ B.returns) hty0 hty1 T safe hcl hmo (dd t0 (by simp [xlen])) (dd t3 (by simp [xlen])) (dd t4 (by simp [xlen])) (dd t7 (by simp [xlen])) hRf hRl n _ r hr hpc (xMono.rfl' h) (by rw [hsz]; exact Nat.le_refl _) (Nat.le_refl _) ls s.heap [] ⟨hl, ha3⟩ ⟨hP, va_S.rf⟩
      unfold xZ at key
      rw [hv] at key
      rw [hsz] at key
      simp only [Nat.sub_self] at key
      exact key
  · cases hf
theorem xTcls_state : xTcls "CapKernel" "java/lang/IllegalStateException" 208 210 11 := ⟨xthC_state, by decide +kernel, by decide +kernel, TC11, rfl, rfl, rfl, rfl, rfl, rfl, rfl⟩
theorem xTcls_arg : xTcls "CapKernel" "java/lang/IllegalArgumentException" 273 275 8 := ⟨xthC_arg, by decide +kernel, by decide +kernel, TC8, rfl, rfl, rfl, rfl, rfl, rfl, rfl⟩
theorem xTcls_unsup : xTcls "CapKernel" "java/lang/UnsupportedOperationException" 276 278 10 := ⟨xthC_unsup, by decide +kernel, by decide +kernel, TC10, rfl, rfl, rfl, rfl, rfl, rfl, rfl⟩
theorem xTcls_elem : xTcls "CapKernel" "java/util/NoSuchElementException" 286 288 9 := ⟨xthC_elem, by decide +kernel, by decide +kernel, TC9, rfl, rfl, rfl, rfl, rfl, rfl, rfl⟩
