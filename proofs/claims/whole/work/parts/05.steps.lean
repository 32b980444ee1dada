/-! ONE INSTRUCTION OF THE ABSTRACT MACHINE IS ONE OF THE REAL ONE. -/
section XS
variable {z : xzs} {p : Program} {l : Launch} {e : Env} {R : Room} {s : State} {m : MethodId} {args : Array Value} {below : List Frame} {meth : Method} {c : Code} {H : Heap} {locs : List Loc} {cells slots : Nat} {Q : State → Prop} {cc : ByteArray} {pc : Nat} {ls : Array Slot}
def xdec (cc : ByteArray) (pc : Nat) (i : xI) : Prop := ∃ len, decode cc pc = .ok (i, len) ∧ (xlen i = 0 ∨ len = xlen i)
theorem xdec.len {i : xI} (h : xdec cc pc i) (hn : ¬ xlen i = 0) : decode cc pc = .ok (i, xlen i) := by
  obtain ⟨len, h1, h2 | h2⟩ := h
  · exact absurd h2 hn
  · rw [← h2]; exact h1
def xlv (ls : Array Slot) (nL : Nat) (L : xL) : Prop := lv_has ls nL L ∧ ∀ q ∈ L, q.2.category = 1
theorem xlv.sub {nL : Nat} {L L' : xL} (h : xlv ls nL L) (hs : ∀ q ∈ L', q ∈ L) : xlv ls nL L' := ⟨⟨h.1.1, h.1.2.1, fun q hq => h.1.2.2 q (hs q hq)⟩, fun q hq => h.2 q (hs q hq)⟩
theorem xlv.st {nL i : Nat} {L : xL} {v : Value} {ls' : Array Slot} (h : xlv ls nL L) (hv : v.category = 1) (h' : lv_has ls' nL ((i, v) :: L.filter (fun q => !(q.1 == i) && !(q.1 + 1 == i && q.2.category == 2)))) : xlv ls' nL (xst i v L) := by
  refine ⟨⟨h'.1, h'.2.1, fun q hq => h'.2.2 q ?_⟩, fun q hq => ?_⟩
  · rcases xst_mem hq with rfl | ⟨h1, h2⟩
    · exact List.mem_cons_self
    · refine List.mem_cons_of_mem _ (List.mem_filter.mpr ⟨h1, ?_⟩)
      have := h.2 q h1
      simp [h2, this]
  · rcases xst_mem hq with rfl | ⟨h1, h2⟩
    · exact hv
    · exact h.2 q h1
theorem xlv.at {nL i : Nat} {L : xL} {v : Value} (h : xlv ls nL L) (hv : xld i L = some v) : ls[i]? = some (.val v) := h.1.2.2 (i, v) (xld_mem hv)
theorem xbin_eq {f : Int32 → Int32 → Int32} {L : xL} {st : List Value} {h : xH} {y : xX ⊕ xR} (hs : xbin f pc L st h = some y) : ∃ a b t, st = .int b :: .int a :: t ∧ y = .inl (pc + 1, L, .int (f a b) :: t, h) := by
  obtain ⟨⟨b, t1⟩, h1, h2⟩ := Option.bind_eq_some_iff.mp hs
  obtain ⟨⟨a, t2⟩, h3, h4⟩ := Option.bind_eq_some_iff.mp h2
  refine ⟨a, b, t2, ?_, (Option.some.inj h4).symm⟩
  rw [xpopi_eq h1]
  have h3 : xpopi t1 = some (a, t2) := h3
  rw [xpopi_eq h3]
theorem xo_math {i : xI} {L : xL} {st : List Value} {h : xH} {y : xX ⊕ xR} (hx : p.tables.exec = Jvm.exec) (hb : c.code = cc) (hd : xdec cc pc i) (hs : xmath i pc L st h = some y) :
    ∃ pc' st', y = .inl (pc', L, st', h) ∧ (W p l e R s m args below meth c H locs cells slots Q (F0 m pc' ls st') → W p l e R s m args below meth c H locs cells slots Q (F0 m pc ls st)) := by
  unfold xmath at hs
  split at hs
  · obtain ⟨a, b, t, rfl, rfl⟩ := xbin_eq hs
    exact ⟨_, _, rfl, fun k => lv_iadd hx hb (hd.len (by simp [xlen])) k⟩
  · obtain ⟨a, b, t, rfl, rfl⟩ := xbin_eq hs
    exact ⟨_, _, rfl, fun k => lv_isub hx hb (hd.len (by simp [xlen])) k⟩
  · obtain ⟨a, b, t, rfl, rfl⟩ := xbin_eq hs
    exact ⟨_, _, rfl, fun k => lv_imul hx hb (hd.len (by simp [xlen])) k⟩
  · obtain ⟨a, b, t, rfl, rfl⟩ := xbin_eq hs
    exact ⟨_, _, rfl, fun k => lv_iand hx hb (hd.len (by simp [xlen])) k⟩
  · obtain ⟨a, b, t, rfl, rfl⟩ := xbin_eq hs
    exact ⟨_, _, rfl, fun k => lv_ior hx hb (hd.len (by simp [xlen])) k⟩
  · obtain ⟨a, b, t, rfl, rfl⟩ := xbin_eq hs
    exact ⟨_, _, rfl, fun k => lv_ixor hx hb (hd.len (by simp [xlen])) k⟩
  · obtain ⟨a, b, t, rfl, rfl⟩ := xbin_eq hs
    exact ⟨_, _, rfl, fun k => lv_ishl hx hb (hd.len (by simp [xlen])) k⟩
  · obtain ⟨a, b, t, rfl, rfl⟩ := xbin_eq hs
    exact ⟨_, _, rfl, fun k => lv_ishr hx hb (hd.len (by simp [xlen])) k⟩
  · obtain ⟨a, b, t, rfl, rfl⟩ := xbin_eq hs
    exact ⟨_, _, rfl, fun k => lv_iushr hx hb (hd.len (by simp [xlen])) rfl k⟩
  · obtain ⟨⟨b, t1⟩, h1, h2⟩ := Option.bind_eq_some_iff.mp hs
    obtain ⟨⟨a, t2⟩, h3, h4⟩ := Option.bind_eq_some_iff.mp h2
    split at h4
    · cases h4
    · rename_i hne
      cases h4
      have h3 : xpopi t1 = some (a, t2) := h3
      have e1 := xpopi_eq h1
      have e2 := xpopi_eq h3
      subst e2
      subst e1
      exact ⟨_, _, rfl, fun k => lv_idiv hx hb (hd.len (by simp [xlen])) hne k⟩
  · obtain ⟨⟨b, t1⟩, h1, h2⟩ := Option.bind_eq_some_iff.mp hs
    obtain ⟨⟨a, t2⟩, h3, h4⟩ := Option.bind_eq_some_iff.mp h2
    split at h4
    · cases h4
    · rename_i hne
      cases h4
      have h3 : xpopi t1 = some (a, t2) := h3
      have e1 := xpopi_eq h1
      have e2 := xpopi_eq h3
      subst e2
      subst e1
      exact ⟨_, _, rfl, fun k => lv_irem hx hb (hd.len (by simp [xlen])) hne k⟩
  · obtain ⟨⟨b, t1⟩, h1, h2⟩ := Option.bind_eq_some_iff.mp hs
    cases h2
    have e1 := xpopi_eq h1
    subst e1
    exact ⟨_, _, rfl, fun k => lv_ineg hx hb (hd.len (by simp [xlen])) k⟩
  · cases hs
def xsi : xI → Nat
  | .istore_n k => k.val + 1
  | .istore k => k + 1
  | .astore_n k => k.val + 1
  | .astore k => k + 1
  | .iinc k _ => k + 1
  | _ => 0
theorem xo_vars {i : xI} {L : xL} {st : List Value} {h : xH} {y : xX ⊕ xR} {nL : Nat} (hx : p.tables.exec = Jvm.exec) (hb : c.code = cc) (hd : xdec cc pc i) (hn : xsi i ≤ nL) (hs : xvars i pc L st h = some y) :
    ∃ pc' L' st', y = .inl (pc', L', st', h) ∧ (xlv ls nL L → (∀ ls', xlv ls' nL L' → W p l e R s m args below meth c H locs cells slots Q (F0 m pc' ls' st')) → W p l e R s m args below meth c H locs cells slots Q (F0 m pc ls st)) := by
  unfold xvars at hs
  split at hs
  · cases hs
    exact ⟨_, _, _, rfl, fun hl k => lv_iconst hx hb (hd.len (by simp [xlen])) rfl (k ls hl)⟩
  · cases hs
    exact ⟨_, _, _, rfl, fun hl k => lv_bipush hx hb (hd.len (by simp [xlen])) rfl (k ls hl)⟩
  · cases hs
    exact ⟨_, _, _, rfl, fun hl k => lv_sipush hx hb (hd.len (by simp [xlen])) rfl (k ls hl)⟩
  · cases hs
    exact ⟨_, _, _, rfl, fun hl k => lv_null hx hb (hd.len (by simp [xlen])) (k ls hl)⟩
  · obtain ⟨v, h1, h2⟩ := Option.bind_eq_some_iff.mp hs
    obtain ⟨x, h3, h4⟩ := Option.bind_eq_some_iff.mp h2
    cases h4
    rw [xiv_some h3] at h1
    exact ⟨_, _, _, rfl, fun hl k => lv_iload_n hx hb (hd.len (by simp [xlen])) rfl (hl.at h1) (k ls hl)⟩
  · obtain ⟨v, h1, h2⟩ := Option.bind_eq_some_iff.mp hs
    obtain ⟨x, h3, h4⟩ := Option.bind_eq_some_iff.mp h2
    cases h4
    rw [xiv_some h3] at h1
    exact ⟨_, _, _, rfl, fun hl k => lv_iload hx hb (hd.len (by simp [xlen])) (hl.at h1) (k ls hl)⟩
  · obtain ⟨v, h1, h2⟩ := Option.bind_eq_some_iff.mp hs
    obtain ⟨x, h3, h4⟩ := Option.bind_eq_some_iff.mp h2
    cases h4
    rw [xrv_some h3] at h1
    cases x with
    | none => exact ⟨_, _, _, rfl, fun hl k => lv_aload_nN hx hb (hd.len (by simp [xlen])) rfl (hl.at h1) (k ls hl)⟩
    | some a => exact ⟨_, _, _, rfl, fun hl k => lv_aload_n hx hb (hd.len (by simp [xlen])) rfl (hl.at h1) (k ls hl)⟩
  · obtain ⟨v, h1, h2⟩ := Option.bind_eq_some_iff.mp hs
    obtain ⟨x, h3, h4⟩ := Option.bind_eq_some_iff.mp h2
    cases h4
    rw [xrv_some h3] at h1
    cases x with
    | none => exact ⟨_, _, _, rfl, fun hl k => lv_aloadN hx hb (hd.len (by simp [xlen])) (hl.at h1) (k ls hl)⟩
    | some a => exact ⟨_, _, _, rfl, fun hl k => lv_aload hx hb (hd.len (by simp [xlen])) (hl.at h1) (k ls hl)⟩
  · obtain ⟨⟨x, t⟩, h1, h2⟩ := Option.bind_eq_some_iff.mp hs
    cases h2
    have e1 := xpopi_eq h1
    subst e1
    exact ⟨_, _, _, rfl, fun hl k => lv_istore_n hx hb (hd.len (by simp [xlen])) rfl hl.1 hn rfl (fun ls' h' => k ls' (hl.st rfl h'))⟩
  · obtain ⟨⟨x, t⟩, h1, h2⟩ := Option.bind_eq_some_iff.mp hs
    cases h2
    have e1 := xpopi_eq h1
    subst e1
    exact ⟨_, _, _, rfl, fun hl k => lv_istore hx hb (hd.len (by simp [xlen])) hl.1 hn rfl (fun ls' h' => k ls' (hl.st rfl h'))⟩
  · obtain ⟨⟨x, t⟩, h1, h2⟩ := Option.bind_eq_some_iff.mp hs
    cases h2
    have e1 := xpopr_eq h1
    subst e1
    cases x with
    | none => exact ⟨_, _, _, rfl, fun hl k => lv_astore_nN hx hb (hd.len (by simp [xlen])) rfl hl.1 hn rfl (fun ls' h' => k ls' (hl.st rfl h'))⟩
    | some a => exact ⟨_, _, _, rfl, fun hl k => lv_astore_n hx hb (hd.len (by simp [xlen])) rfl hl.1 hn rfl (fun ls' h' => k ls' (hl.st rfl h'))⟩
  · obtain ⟨⟨x, t⟩, h1, h2⟩ := Option.bind_eq_some_iff.mp hs
    cases h2
    have e1 := xpopr_eq h1
    subst e1
    cases x with
    | none => exact ⟨_, _, _, rfl, fun hl k => lv_astoreN hx hb (hd.len (by simp [xlen])) hl.1 hn rfl (fun ls' h' => k ls' (hl.st rfl h'))⟩
    | some a => exact ⟨_, _, _, rfl, fun hl k => lv_astore hx hb (hd.len (by simp [xlen])) hl.1 hn rfl (fun ls' h' => k ls' (hl.st rfl h'))⟩
  · obtain ⟨v, h1, h2⟩ := Option.bind_eq_some_iff.mp hs
    obtain ⟨x, h3, h4⟩ := Option.bind_eq_some_iff.mp h2
    cases h4
    rw [xiv_some h3] at h1
    obtain ⟨j, hj⟩ := List.getElem?_of_mem (xld_mem h1)
    exact ⟨_, _, _, rfl, fun hl k => lv_iinc hx hb (hd.len (by simp [xlen])) hl.1 hj rfl hn rfl (fun ls' h' => k ls' (hl.st rfl h'))⟩
  · obtain ⟨⟨v, t⟩, h1, h2⟩ := Option.bind_eq_some_iff.mp hs
    split at h2
    · rename_i hc
      cases h2
      have e1 := xpop1_eq h1
      subst e1
      exact ⟨_, _, _, rfl, fun hl k => lv_dup hx hb (hd.len (by simp [xlen])) hc (k ls hl)⟩
    · cases h2
  · obtain ⟨⟨v, t⟩, h1, h2⟩ := Option.bind_eq_some_iff.mp hs
    obtain ⟨⟨w, t2⟩, h3, h4⟩ := Option.bind_eq_some_iff.mp h2
    split at h4
    · rename_i hc
      cases h4
      have h3 : xpop1 t = some (w, t2) := h3
      have e2 := xpop1_eq h3
      have e1 := xpop1_eq h1
      subst e2
      subst e1
      exact ⟨_, _, _, rfl, fun hl k => lv_dup_x1 hx hb (hd.len (by simp [xlen])) hc.1 hc.2 (k ls hl)⟩
    · cases h4
  · obtain ⟨⟨v, t⟩, h1, h2⟩ := Option.bind_eq_some_iff.mp hs
    obtain ⟨⟨w, t2⟩, h3, h4⟩ := Option.bind_eq_some_iff.mp h2
    split at h4
    · rename_i hc
      cases h4
      have h3 : xpop1 t = some (w, t2) := h3
      have e2 := xpop1_eq h3
      have e1 := xpop1_eq h1
      subst e2
      subst e1
      exact ⟨_, _, _, rfl, fun hl k => lv_dup2_11 hx hb (hd.len (by simp [xlen])) hc.1 hc.2 (k ls hl)⟩
    · cases h4
  · obtain ⟨⟨v, t⟩, h1, h2⟩ := Option.bind_eq_some_iff.mp hs
    split at h2
    · rename_i hc
      cases h2
      have e1 := xpop1_eq h1
      subst e1
      exact ⟨_, _, _, rfl, fun hl k => lv_pop hx hb (hd.len (by simp [xlen])) hc (k ls hl)⟩
    · cases h2
  · cases hs
theorem xgo_eq {off : Int} {L : xL} {st : List Value} {h : xH} {y : xX ⊕ xR} (hs : xgo pc off L st h = some y) : ∃ q : Nat, (pc : Int) + off = (q : Int) ∧ y = .inl (q, L, st, h) := by
  obtain ⟨q, h1, h2⟩ := Option.bind_eq_some_iff.mp hs
  exact ⟨q, xjmp_eq h1, (Option.some.inj h2).symm⟩
theorem xo_branch {i : xI} {L : xL} {st : List Value} {h : xH} {y : xX ⊕ xR} (hx : p.tables.exec = Jvm.exec) (hb : c.code = cc) (hd : xdec cc pc i) (hs : xbranch i pc L st h = some y) :
    ∃ pc' st', y = .inl (pc', L, st', h) ∧ (W p l e R s m args below meth c H locs cells slots Q (F0 m pc' ls st') → W p l e R s m args below meth c H locs cells slots Q (F0 m pc ls st)) := by
  unfold xbranch at hs
  split at hs
  · obtain ⟨q, h1, rfl⟩ := xgo_eq hs
    exact ⟨_, _, rfl, fun k => lv_goto hx hb (hd.len (by simp [xlen])) h1 k⟩
  · rename_i cd off
    obtain ⟨q, hq, h0⟩ := Option.bind_eq_some_iff.mp hs
    obtain ⟨⟨x, t⟩, h1, h2⟩ := Option.bind_eq_some_iff.mp h0
    have hq := xjmp_eq hq
    have e1 := xpopi_eq h1
    subst e1
    have hd := hd.len (by simp [xlen])
    by_cases hc : xcnd cd x 0 = true
    · rw [if_pos hc] at h2
      cases h2
      cases cd <;> simp only [xcnd, decide_eq_true_eq] at hc
      · exact ⟨_, _, rfl, fun k => lv_if_eq hx hb hd hq (fun _ => k) (fun z => absurd hc z)⟩
      · exact ⟨_, _, rfl, fun k => lv_if_ne hx hb hd hq (fun _ => k) (fun z => absurd z hc)⟩
      · exact ⟨_, _, rfl, fun k => lv_if_lt hx hb hd hq (fun _ => k) (fun z => absurd hc z)⟩
      · exact ⟨_, _, rfl, fun k => lv_if_ge hx hb hd hq (fun _ => k) (fun z => absurd hc z)⟩
      · exact ⟨_, _, rfl, fun k => lv_if_gt hx hb hd hq (fun _ => k) (fun z => absurd hc z)⟩
      · exact ⟨_, _, rfl, fun k => lv_if_le hx hb hd hq (fun _ => k) (fun z => absurd hc z)⟩
    · rw [if_neg hc] at h2
      cases h2
      cases cd <;> simp only [xcnd, decide_eq_true_eq] at hc
      · exact ⟨_, _, rfl, fun k => lv_if_eq hx hb hd hq (fun z => absurd z hc) (fun _ => k)⟩
      · exact ⟨_, _, rfl, fun k => lv_if_ne hx hb hd hq (fun z => absurd z hc) (fun _ => k)⟩
      · exact ⟨_, _, rfl, fun k => lv_if_lt hx hb hd hq (fun z => absurd z hc) (fun _ => k)⟩
      · exact ⟨_, _, rfl, fun k => lv_if_ge hx hb hd hq (fun z => absurd z hc) (fun _ => k)⟩
      · exact ⟨_, _, rfl, fun k => lv_if_gt hx hb hd hq (fun z => absurd z hc) (fun _ => k)⟩
      · exact ⟨_, _, rfl, fun k => lv_if_le hx hb hd hq (fun z => absurd z hc) (fun _ => k)⟩
  · rename_i cd off
    obtain ⟨q, hq, h0⟩ := Option.bind_eq_some_iff.mp hs
    obtain ⟨⟨b, t1⟩, h1, h2⟩ := Option.bind_eq_some_iff.mp h0
    obtain ⟨⟨x, t⟩, h3, h4⟩ := Option.bind_eq_some_iff.mp h2
    have hq := xjmp_eq hq
    have h3 : xpopi t1 = some (x, t) := h3
    have e2 := xpopi_eq h3
    have e1 := xpopi_eq h1
    subst e2
    subst e1
    have hd := hd.len (by simp [xlen])
    by_cases hc : xcnd cd x b = true
    · rw [if_pos hc] at h4
      cases h4
      cases cd <;> simp only [xcnd, decide_eq_true_eq] at hc
      · exact ⟨_, _, rfl, fun k => lv_icmp_eq hx hb hd hq (fun _ => k) (fun z => absurd hc z)⟩
      · exact ⟨_, _, rfl, fun k => lv_icmp_ne hx hb hd hq (fun _ => k) (fun z => absurd z hc)⟩
      · exact ⟨_, _, rfl, fun k => lv_icmp_lt hx hb hd hq (fun _ => k) (fun z => absurd hc z)⟩
      · exact ⟨_, _, rfl, fun k => lv_icmp_ge hx hb hd hq (fun _ => k) (fun z => absurd hc z)⟩
      · exact ⟨_, _, rfl, fun k => lv_icmp_gt hx hb hd hq (fun _ => k) (fun z => absurd hc z)⟩
      · exact ⟨_, _, rfl, fun k => lv_icmp_le hx hb hd hq (fun _ => k) (fun z => absurd hc z)⟩
    · rw [if_neg hc] at h4
      cases h4
      cases cd <;> simp only [xcnd, decide_eq_true_eq] at hc
      · exact ⟨_, _, rfl, fun k => lv_icmp_eq hx hb hd hq (fun z => absurd z hc) (fun _ => k)⟩
      · exact ⟨_, _, rfl, fun k => lv_icmp_ne hx hb hd hq (fun z => absurd z hc) (fun _ => k)⟩
      · exact ⟨_, _, rfl, fun k => lv_icmp_lt hx hb hd hq (fun z => absurd z hc) (fun _ => k)⟩
      · exact ⟨_, _, rfl, fun k => lv_icmp_ge hx hb hd hq (fun z => absurd z hc) (fun _ => k)⟩
      · exact ⟨_, _, rfl, fun k => lv_icmp_gt hx hb hd hq (fun z => absurd z hc) (fun _ => k)⟩
      · exact ⟨_, _, rfl, fun k => lv_icmp_le hx hb hd hq (fun z => absurd z hc) (fun _ => k)⟩
  · obtain ⟨q, hq, h0⟩ := Option.bind_eq_some_iff.mp hs
    obtain ⟨⟨x, t⟩, h1, h2⟩ := Option.bind_eq_some_iff.mp h0
    have hq := xjmp_eq hq
    have e1 := xpopr_eq h1
    subst e1
    cases x with
    | none =>
      cases h2
      exact ⟨_, _, rfl, fun k => lv_ifnullN hx hb (hd.len (by simp [xlen])) hq k⟩
    | some a =>
      cases h2
      exact ⟨_, _, rfl, fun k => lv_ifnull hx hb (hd.len (by simp [xlen])) k⟩
  · obtain ⟨q, hq, h0⟩ := Option.bind_eq_some_iff.mp hs
    obtain ⟨⟨x, t⟩, h1, h2⟩ := Option.bind_eq_some_iff.mp h0
    have hq := xjmp_eq hq
    have e1 := xpopr_eq h1
    subst e1
    cases x with
    | none =>
      cases h2
      exact ⟨_, _, rfl, fun k => lv_ifnonnullN hx hb (hd.len (by simp [xlen])) k⟩
    | some a =>
      cases h2
      exact ⟨_, _, rfl, fun k => lv_ifnonnull hx hb (hd.len (by simp [xlen])) hq k⟩
  · obtain ⟨q, hq, h0⟩ := Option.bind_eq_some_iff.mp hs
    obtain ⟨⟨b, t1⟩, h1, h2⟩ := Option.bind_eq_some_iff.mp h0
    obtain ⟨⟨x, t⟩, h3, h4⟩ := Option.bind_eq_some_iff.mp h2
    have hq := xjmp_eq hq
    have h3 : xpopr t1 = some (x, t) := h3
    have e2 := xpopr_eq h3
    have e1 := xpopr_eq h1
    subst e2
    subst e1
    by_cases hc : x = b
    · rw [if_pos hc] at h4
      cases h4
      exact ⟨_, _, rfl, fun k => lv_acmp_eq hx hb (hd.len (by simp [xlen])) hq (fun _ => k) (fun z => absurd hc z)⟩
    · rw [if_neg hc] at h4
      cases h4
      exact ⟨_, _, rfl, fun k => lv_acmp_eq hx hb (hd.len (by simp [xlen])) hq (fun z => absurd z hc) (fun _ => k)⟩
  · obtain ⟨q, hq, h0⟩ := Option.bind_eq_some_iff.mp hs
    obtain ⟨⟨b, t1⟩, h1, h2⟩ := Option.bind_eq_some_iff.mp h0
    obtain ⟨⟨x, t⟩, h3, h4⟩ := Option.bind_eq_some_iff.mp h2
    have hq := xjmp_eq hq
    have h3 : xpopr t1 = some (x, t) := h3
    have e2 := xpopr_eq h3
    have e1 := xpopr_eq h1
    subst e2
    subst e1
    by_cases hc : x = b
    · rw [if_pos hc] at h4
      cases h4
      exact ⟨_, _, rfl, fun k => lv_acmp_ne hx hb (hd.len (by simp [xlen])) hq (fun z => absurd hc z) (fun _ => k)⟩
    · rw [if_neg hc] at h4
      cases h4
      exact ⟨_, _, rfl, fun k => lv_acmp_ne hx hb (hd.len (by simp [xlen])) hq (fun _ => k) (fun z => absurd z hc)⟩
  · obtain ⟨⟨x, t⟩, h1, h2⟩ := Option.bind_eq_some_iff.mp hs
    have e1 := xpopi_eq h1
    subst e1
    obtain ⟨len, hd, -⟩ := hd
    split at h2
    · rename_i hc
      obtain ⟨q, h3, rfl⟩ := xgo_eq h2
      exact ⟨_, _, rfl, fun k => lv_tableOut hx hb hd hc h3 k⟩
    · rename_i hc
      obtain ⟨off, h3, h4⟩ := Option.bind_eq_some_iff.mp h2
      obtain ⟨q, h5, rfl⟩ := xgo_eq h4
      exact ⟨_, _, rfl, fun k => lv_tableIn hx hb hd (fun z => hc (Or.inl z)) (fun z => hc (Or.inr z)) h3 h5 k⟩
  · split at hs
    · rename_i hc
      obtain ⟨⟨x, t⟩, h1, h2⟩ := Option.bind_eq_some_iff.mp hs
      have e1 := xpopi_eq h1
      subst e1
      obtain ⟨len, hd, -⟩ := hd
      obtain ⟨q, h3, rfl⟩ := xgo_eq h2
      exact ⟨_, _, rfl, fun k => lv_lookup hx hb hd hc rfl h3 k⟩
    · cases hs
  · cases hs
end XS
