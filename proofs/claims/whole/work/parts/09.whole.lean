/-! THE ABSTRACT MACHINE IS RIGHT, whole runs. -/
section XW
variable {z : xzs} {p : Program} {l : Launch} {e : Env} {R : Room} {s : State} {m : MethodId} {args : Array Value} {below : List Frame} {meth : Method} {c : Code} {H : Heap} {locs : List Loc} {Q : State → Prop} {cc : ByteArray} {pc : Nat} {ls : Array Slot} {D : va_G} {dA : Nat → ClassId} {h h0 : xH} {r : xR} {nL rF rL : Nat} {Ts : List Cond} {own : String} {K : xK}
theorem xcall_eq {kd idx : Nat} {L : xL} {st : List Value} {y : xX ⊕ xR} (hs : xcall K kd idx pc L st h = some y) : ∃ (c0 : xC) (As : List Value), xca K idx = some c0 ∧ c0.1 = kd ∧ As.length = c0.2.1 ∧
    ((kd = 0 ∧ ∃ t r, st = As.reverse ++ t ∧ xok t ∧ c0.2.2.2 As h = some r ∧ xback pc L t r = some y) ∨
     (kd = 3 ∧ ∃ b t, st = .ref b :: t ∧ xok t ∧ y = .inl (pc + 3, L, t, h)) ∨
     (kd = 1 ∧ ∃ b t r fs, st = As.reverse ++ .ref b :: t ∧ xok t ∧ xat h b = some (.inr (c0.2.2.1, fs)) ∧ c0.2.2.2 (.ref b :: As) h = some r ∧ xback pc L t r = some y) ∨
     (¬ kd = 0 ∧ ¬ kd = 1 ∧ ¬ kd = 3 ∧ ∃ b t r, st = As.reverse ++ .ref b :: t ∧ xok t ∧ c0.2.2.2 (.ref b :: As) h = some r ∧ xbackI pc L t r = some y)) := by
  obtain ⟨c0, hc, h1⟩ := Option.bind_eq_some_iff.mp hs
  split at h1
  · rename_i hcond
    obtain ⟨k1, k2⟩ := hcond
    refine ⟨c0, (st.take c0.2.1).reverse, hc, k1, by simp [Nat.min_eq_left k2], ?_⟩
    have hst : st = (st.take c0.2.1).reverse.reverse ++ st.drop c0.2.1 := by rw [List.reverse_reverse, List.take_append_drop]
    split at h1
    · rename_i hk
      split at h1
      · rename_i hl4
        obtain ⟨r, f1, f2⟩ := Option.bind_eq_some_iff.mp h1
        exact Or.inl ⟨hk, st.drop c0.2.1, r, hst, hl4, f1, f2⟩
      · cases h1
    · rename_i hk0
      obtain ⟨⟨b, t⟩, b1, h2⟩ := Option.bind_eq_some_iff.mp h1
      have hb := xpopa_eq b1
      rw [hb] at hst
      split at h2
      rotate_left
      · cases h2
      rename_i ht
      split at h2
      · rename_i hk3
        split at h2
        · rename_i hz
          cases h2
          refine Or.inr (Or.inl ⟨hk3, b, t, ?_, ht, rfl⟩)
          rw [hz] at hst
          simpa using hst
        · cases h2
      · rename_i hk3
        split at h2
        · rename_i hk1
          obtain ⟨ee, r1, h3⟩ := Option.bind_eq_some_iff.mp h2
          obtain ⟨fs, r2, h4⟩ := Option.bind_eq_some_iff.mp h3
          obtain ⟨r, f1, f2⟩ := Option.bind_eq_some_iff.mp h4
          rw [xob_eq r2] at r1
          exact Or.inr (Or.inr (Or.inl ⟨hk1, b, t, r, fs, hst, ht, r1, f1, f2⟩))
        · rename_i hk1
          obtain ⟨r, f1, f2⟩ := Option.bind_eq_some_iff.mp h2
          exact Or.inr (Or.inr (Or.inr ⟨hk0, hk1, hk3, b, t, r, hst, ht, f1, f2⟩))
  · cases h1
theorem xback_eq {L : xL} {t : List Value} {y : xX ⊕ xR} (hs : xback pc L t r = some y) : (∃ v, r.1 = .inl v ∧ y = .inl (pc + 3, L, v.toList ++ t, r.2)) ∨ ∃ x, r.1 = .inr x ∧ y = .inr r := by
  obtain ⟨o, h'⟩ := r
  cases o with
  | inl v => cases hs; exact Or.inl ⟨v, rfl, rfl⟩
  | inr x => cases hs; exact Or.inr ⟨x, rfl, rfl⟩
theorem xbackI_eq {L : xL} {t : List Value} {y : xX ⊕ xR} (hs : xbackI pc L t r = some y) : ∃ v, r.1 = .inl v ∧ y = .inl (pc + 3, L, v.toList ++ t, r.2) := by
  obtain ⟨o, h'⟩ := r
  cases o with
  | inl v => cases hs; exact ⟨v, rfl, rfl⟩
  | inr x => cases hs
set_option maxHeartbeats 1000000 in
theorem xo_calls {i : xI} {L : xL} {st : List Value} {y : xX ⊕ xR} (F : xFix z p s m args meth c cc nL Ts own R rF rL D dA h0) (hm0 : xMono h0 h) (hd : xdec cc pc i) (hret : meth.sig.returnType = xrt K)
    (hty0 : xaty[0]? = some .int) (hG : ∀ idx c0, xca K idx = some c0 → xGcall z l own Ts rF rL idx c0) (hs : xcalls K i pc L st h = some y) :
    (∃ st' h', y = .inl (pc + 3, L, st', h') ∧ xMono h h' ∧ (xlv ls nL L → xn h' - s.heap.size ≤ R.cells → h'.2.1 - h0.2.1 ≤ R.slots → xAt D dA s locs h H →
      (∀ H' locs', xAt D dA s locs' h' H' → W p l e R s m args below meth c H' locs' (xn h' - s.heap.size) (h'.2.1 - h0.2.1) Q (F0 m (pc + 3) ls st')) →
      W p l e R s m args below meth c H locs (xn h - s.heap.size) (h.2.1 - h0.2.1) Q (F0 m pc ls st))) ∨
    (∃ r : xR, y = .inr r ∧ xMono h r.2 ∧ (xlv ls nL L → xn r.2 - s.heap.size ≤ R.cells → r.2.2.1 - h0.2.1 ≤ R.slots → xAt D dA s locs h H →
      W p l e R s m args below meth c H locs (xn h - s.heap.size) (h.2.1 - h0.2.1) (xZ below args s D dA h0 r) (F0 m pc ls st))) := by
  obtain ⟨S, hRR, hK, hlocks, hex, hsz⟩ := id F
  obtain ⟨hx, hb, hml, hown, hts⟩ := id S
  have hb0 : h.1 = h0.1 := hm0.1
  unfold xcalls at hs
  split at hs
  · -- static
    rename_i idx
    obtain ⟨c9, hc9, h9⟩ := Option.bind_eq_some_iff.mp hs
    split at h9
    · rename_i h94
      obtain ⟨⟨n, t1⟩, p1, a1⟩ := Option.bind_eq_some_iff.mp h9
      obtain ⟨⟨dp, t2⟩, p2, a2⟩ := Option.bind_eq_some_iff.mp a1
      obtain ⟨⟨d, t3⟩, p3, a3⟩ := Option.bind_eq_some_iff.mp a2
      obtain ⟨⟨sp, t4⟩, p4, a4⟩ := Option.bind_eq_some_iff.mp a3
      obtain ⟨⟨sr, t⟩, p5, a5⟩ := Option.bind_eq_some_iff.mp a4
      obtain ⟨es, r1, a6⟩ := Option.bind_eq_some_iff.mp a5
      obtain ⟨qs, r2, a7⟩ := Option.bind_eq_some_iff.mp a6
      obtain ⟨ed, r3, a8⟩ := Option.bind_eq_some_iff.mp a7
      obtain ⟨qd, r4, a9⟩ := Option.bind_eq_some_iff.mp a8
      split at a9
      · rename_i hcond
        obtain ⟨k1, k2, k3, k4, k5, k6⟩ := hcond
        cases a9
        have p2 : xpopi t1 = some (dp, t2) := p2
        have p3 : xpopa t2 = some (d, t3) := p3
        have p4 : xpopi t3 = some (sp, t4) := p4
        have p5 : xpopa t4 = some (sr, t) := p5
        have e5 := xpopa_eq p5
        have e4 := xpopi_eq p4
        have e3 := xpopa_eq p3
        have e2 := xpopi_eq p2
        have e1 := xpopi_eq p1
        subst e5
        subst e4
        subst e3
        subst e2
        subst e1
        rw [xai_eq r2] at r1
        rw [xai_eq r4] at r3
        have hd3 := (xat_at r3).1
        refine Or.inl ⟨_, _, rfl, xset_mono h _ _, fun hl hrc hrs hA k => ?_⟩
        have hK' : xk z D dA h.1 s := by rw [hb0]; exact hK
        have hcat : (t.map fun v => v.category).sum ≤ 8 := Nat.le_trans (xcat_sum t) (by have : t.length ≤ 4 := k6; omega)
        rcases hG _ _ hc9 with ⟨w, -⟩ | ⟨-, g1, g2, g3, g4, g5, g6⟩ | ⟨yy, bytes, maxL, ret, w, w', cF, cL, hct, hw, hR, hy, hGW, hkind⟩
        · rw [h94] at w; cases w
        · refine va_copyi (tys := [(dA 0, .int)]) (ty := .int) hx hb (hml.trans hl.1.1.symm) hown (hts _ g1) (hts _ g2) (hts _ g3) (hts _ g4) (hK'.arr hty0) hA.1 (xws_D dA h) hA.2 (sr - h.1) (d - h.1) 0 0 (xws_at dA r1) (xws_at dA r3) rfl rfl rfl k1 k2 k3 k4 k5 (fun _ _ => rfl) (by rw [hRR.1]; exact g5) (by rw [hRR.2]; omega) (hd.len (by simp [xlen])) (fun H1 locs1 hP1 _ hS1 => ?_)
          refine xW_ix (by rw [xset_n]) rfl (k H1 locs1 ⟨?_, hS1⟩)
          rw [← xws_set dA _ hd3]
          exact hP1
        · rcases hkind with ⟨w, -⟩ | ⟨w, -⟩ | ⟨w, -⟩ <;> (rw [h94] at w; cases w)
      · cases a9
    · obtain ⟨c0, As, hc, hk, hlen, h1 | h1 | h1 | h1⟩ := xcall_eq h9
      · obtain ⟨-, t, r, rfl, ht, hf, hbk⟩ := h1
        rcases hG _ _ hc with ⟨w, -⟩ | ⟨w, -⟩ | ⟨yy, bytes, maxL, ret, w, w', cF, cL, hct, hw, hR, hy, hGW, hkind⟩
        · rw [hk] at w; cases w
        · rw [hk] at w; cases w
        · rcases hkind with ⟨-, g1⟩ | ⟨w, -⟩ | ⟨w, -⟩
          · rcases xback_eq hbk with ⟨v, hv, rfl⟩ | ⟨x, hv, rfl⟩
            · exact Or.inl ⟨_, _, rfl, (hct _ _ _ hf).1, fun hl hrc hrs hA k => (xcall_run (b := 0) F hm0 hl hct hw hR hy hlen ht hA hrc hrs hGW (Or.inl ⟨hd.len (by simp [xlen]), rfl, g1, hf⟩)).1 v hv k⟩
            · exact Or.inr ⟨r, rfl, (hct _ _ _ hf).1, fun hl hrc hrs hA => (xcall_run (b := 0) (Q := Q) F hm0 hl hct hw hR hy hlen ht hA hrc hrs hGW (Or.inl ⟨hd.len (by simp [xlen]), rfl, g1, hf⟩)).2 x hv⟩
          · rw [hk] at w; cases w
          · rw [hk] at w; cases w
      · exact absurd h1.1 (by decide)
      · exact absurd h1.1 (by decide)
      · exact absurd rfl h1.1
  · -- virtual
    rename_i idx
    obtain ⟨c0, As, hc, hk, hlen, h1 | h1 | h1 | h1⟩ := xcall_eq hs
    · exact absurd h1.1 (by decide)
    · exact absurd h1.1 (by decide)
    · obtain ⟨-, b, t, r, fs, rfl, ht, hat, hf, hbk⟩ := h1
      rcases hG _ _ hc with ⟨z, -⟩ | ⟨z, -⟩ | ⟨yy, bytes, maxL, ret, w, w', cF, cL, hct, hw, hR, hy, hGW, hkind⟩
      · rw [hk] at z; cases z
      · rw [hk] at z; cases z
      · rcases hkind with ⟨z, -⟩ | ⟨-, g1, rr, g2, g3⟩ | ⟨z, -⟩
        · rw [hk] at z; cases z
        · rcases xback_eq hbk with ⟨v, hv, rfl⟩ | ⟨x, hv, rfl⟩
          · exact Or.inl ⟨_, _, rfl, (hct _ _ _ hf).1, fun hl hrc hrs hA k => (xcall_run F hm0 hl hct hw hR hy hlen ht hA hrc hrs hGW (Or.inr (Or.inl ⟨hd.len (by simp [xlen]), rfl, g1, ⟨rr, fs, g2, g3, hat⟩, hf⟩))).1 v hv k⟩
          · exact Or.inr ⟨r, rfl, (hct _ _ _ hf).1, fun hl hrc hrs hA => (xcall_run (Q := Q) F hm0 hl hct hw hR hy hlen ht hA hrc hrs hGW (Or.inr (Or.inl ⟨hd.len (by simp [xlen]), rfl, g1, ⟨rr, fs, g2, g3, hat⟩, hf⟩))).2 x hv⟩
        · rw [hk] at z; cases z
    · exact absurd rfl h1.2.1
  · -- special
    rename_i idx
    obtain ⟨c9, hc9, h9⟩ := Option.bind_eq_some_iff.mp hs
    split at h9
    · obtain ⟨c0, As, hc, hk, hlen, h1 | h1 | h1 | h1⟩ := xcall_eq h9
      · exact absurd h1.1 (by decide)
      · obtain ⟨-, b, t, rfl, ht, rfl⟩ := h1
        rcases hG _ _ hc with ⟨-, g1, g2, g3, g4, g5⟩ | ⟨z, -⟩ | ⟨yy, bytes, maxL, ret, w, w', cF, cL, hct, hw, hR, hy, hGW, hkind⟩
        · refine Or.inl ⟨_, _, rfl, xMono.rfl' h, fun hl hrc hrs hA k => ?_⟩
          have hcat : (t.map fun v => v.category).sum ≤ 8 := xok_cat ht
          refine W.objInit hx hb hown (hts _ g1) (hts _ g2) (hts _ g3) rfl (by rw [hml]; exact hl.1.1) rfl (hd.len (by simp [xlen])) (by rw [hRR.1]; exact g4) ?_ (k H locs hA)
          rw [hRR.2]
          have := lv_room (m := m) (pc := pc) (ls := ls) (rest := Value.ref b :: t) hcat
          omega
        · rw [hk] at z; cases z
        · rcases hkind with ⟨z, -⟩ | ⟨z, -⟩ | ⟨z, -⟩ <;> (rw [hk] at z; cases z)
      · exact absurd h1.1 (by decide)
      · exact absurd rfl h1.2.2.1
    · obtain ⟨c0, As, hc, hk, hlen, h1 | h1 | h1 | h1⟩ := xcall_eq h9
      · exact absurd h1.1 (by decide)
      · exact absurd h1.1 (by decide)
      · exact absurd h1.1 (by decide)
      · obtain ⟨-, -, -, b, t, r, rfl, ht, hf, hbk⟩ := h1
        rcases hG _ _ hc with ⟨z, -⟩ | ⟨z, -⟩ | ⟨yy, bytes, maxL, ret, w, w', cF, cL, hct, hw, hR, hy, hGW, hkind⟩
        · rw [hk] at z; cases z
        · rw [hk] at z; cases z
        · rcases hkind with ⟨z, -⟩ | ⟨z, -⟩ | ⟨-, g1⟩
          · rw [hk] at z; cases z
          · rw [hk] at z; cases z
          · obtain ⟨v, hv, rfl⟩ := xbackI_eq hbk
            exact Or.inl ⟨_, _, rfl, (hct _ _ _ hf).1, fun hl hrc hrs hA k => (xcall_run F hm0 hl hct hw hR hy hlen ht hA hrc hrs hGW (Or.inr (Or.inr ⟨hd.len (by simp [xlen]), rfl, g1, hf, ⟨v, hv⟩⟩))).1 v hv k⟩
  · -- ireturn
    obtain ⟨⟨x, t⟩, h1, h2⟩ := Option.bind_eq_some_iff.mp hs
    have e1 := xpopi_eq h1
    subst e1
    split at h2
    · rename_i ht
      have ht : t = [] := ht
      subst ht
      split at h2
      · rename_i hrt
        cases h2
        refine Or.inr ⟨_, rfl, xMono.rfl' h, fun hl hrc hrs hA => ?_⟩
        have hq : ∀ t : State, t.heap = H → s.WarmedH t.vm → xQc D dA h0 (Sum.inl (some (Value.int x)), h) args s (.returned (some (.int x))) t := fun t ht _ => ⟨rfl, by rw [ht]; exact hA.1, by rw [← hb0]; exact hA.2.F ht⟩
        have hf : ∀ q ∈ locs, h0.1 ≤ q.base := fun q hq => by rw [← hb0]; exact hA.2.2.2 q hq
        rcases hrt with z | ⟨z, z2⟩
        · exact W.iret (Qc := xQc D dA h0 (Sum.inl (some (Value.int x)), h)) hx hb (hret.trans z) hq hf (hd.len (by simp [xlen])) hlocks
        · refine W.zret (Qc := xQc D dA h0 (Sum.inl (some (Value.int x)), h)) (ty := .boolean) hx hb (hret.trans z) ?_ hq hf (hd.len (by simp [xlen])) hlocks
          rcases z2 with rfl | rfl <;> rfl
      · cases h2
    · cases h2
  · -- areturn
    obtain ⟨⟨x, t⟩, h1, h2⟩ := Option.bind_eq_some_iff.mp hs
    have e1 := xpopr_eq h1
    subst e1
    split at h2
    · rename_i ht
      have ht : t = [] := ht
      subst ht
      split at h2
      · rename_i hrt
        cases h2
        refine Or.inr ⟨_, rfl, xMono.rfl' h, fun hl hrc hrs hA => ?_⟩
        have hq : ∀ t : State, t.heap = H → s.WarmedH t.vm → xQc D dA h0 (Sum.inl (some (va_rf x)), h) args s (.returned (some (va_rf x))) t := fun t ht _ => ⟨rfl, by rw [ht]; exact hA.1, by rw [← hb0]; exact hA.2.F ht⟩
        have hf : ∀ q ∈ locs, h0.1 ≤ q.base := fun q hq => by rw [← hb0]; exact hA.2.2.2 q hq
        cases hrk : xrt K with
        | none => rw [hrk] at hrt; cases hrt
        | some ty =>
          rw [hrk] at hrt hret
          refine W.aret (Qc := xQc D dA h0 (Sum.inl (some (va_rf x)), h)) hx hb hret ?_ ?_ hq hf (hd.len (by simp [xlen])) hlocks
          · cases ty with
            | object n => exact Or.inl ⟨n, rfl⟩
            | array n => exact Or.inr ⟨n, rfl⟩
            | _ => cases hrt
          · cases x with
            | none => exact Or.inl rfl
            | some a => exact Or.inr ⟨a, rfl⟩
      · cases h2
    · cases h2
  · -- return
    split at hs
    · rename_i ht
      subst ht
      split at hs
      · rename_i hrt
        cases hs
        refine Or.inr ⟨_, rfl, xMono.rfl' h, fun hl hrc hrs hA => ?_⟩
        have hq : ∀ t : State, t.heap = H → s.WarmedH t.vm → xQc D dA h0 (Sum.inl none, h) args s (.returned none) t := fun t ht _ => ⟨rfl, by rw [ht]; exact hA.1, by rw [← hb0]; exact hA.2.F ht⟩
        have hf : ∀ q ∈ locs, h0.1 ≤ q.base := fun q hq => by rw [← hb0]; exact hA.2.2.2 q hq
        exact W.vret (Qc := xQc D dA h0 (Sum.inl none, h)) hx hb (hret.trans hrt) hq hf (hd.len (by simp [xlen])) hlocks
      · cases hs
    · cases hs
  · -- athrow
    obtain ⟨⟨a, t⟩, h1, h2⟩ := Option.bind_eq_some_iff.mp hs
    have e1 := xpopa_eq h1
    subst e1
    cases h2
    refine Or.inr ⟨_, rfl, xMono.rfl' h, fun hl hrc hrs hA => ?_⟩
    intro T hT X
    have hA' : xAt D dA s locs h T.heap := by rw [hT]; exact hA
    obtain ⟨k1, k2, k3, k4, k5⟩ := X.athrowLeaves hx (g := F0 m pc ls (.ref a :: t)) rfl rfl rfl (F.out pc) rfl (by rw [hb]; exact hd.len (by simp [xlen])) hlocks
    have hf : ∀ q ∈ locs, h0.1 ≤ q.base := fun q hq => by rw [← hb0]; exact hA.2.2.2 q hq
    refine ⟨_, k1, .threw a, k2, k3, ⟨rfl, hA'.1, hA'.2.1, fun q q1 q2 => ?_⟩, locs, ⟨k4, k5⟩, hf⟩
    exact hA'.2.2.1 q q1 (by rw [hb0]; exact q2)
  · cases hs
/-- what a method's table must say -/
def xGood (z : xzs) (l : Launch) (K : xK) (own : String) (cc : ByteArray) (nL : Nat) (Ts : List Cond) (ini : Prop) (rF rL : Nat) : Prop :=
  (∀ pc i, xcd K pc = some i → xdec cc pc i ∧ xsi i ≤ nL ∧ (i = .newarray .int → Cond.arrayClass .int ∈ Ts) ∧ (i = .newarray .boolean → Cond.arrayClass .boolean ∈ Ts)) ∧
  (∀ idx f, xfl K idx = some f → xGf own Ts ini idx f) ∧ (∀ idx f, xnw K idx = some f → xGn own Ts idx f) ∧ (∀ idx kd, xan K idx = some kd → xGa own Ts idx kd) ∧ (∀ idx ci, xcc K idx = some ci → xGc own Ts idx ci) ∧
  (∀ idx c0, xca K idx = some c0 → xGcall z l own Ts rF rL idx c0)
end XW
section XH
def xHM (h : xH) (o : xS) : Prop := ∀ y, o = some y → ∃ x' : xX, y = .inl x' ∧ xMono h x'.2.2.2
theorem xHM_none {h : xH} : xHM h none := fun _ z => by cases z
theorem xHM_same {h : xH} {pc : Nat} {L : xL} {st : List Value} : xHM h (some (.inl (pc, L, st, h))) := fun _ z => by cases z; exact ⟨_, rfl, xMono.rfl' h⟩
theorem xHM_set {h : xH} {pc a : Nat} {e : va_E} {L : xL} {st : List Value} : xHM h (some (.inl (pc, L, st, xset h a e))) := fun _ z => by cases z; exact ⟨_, rfl, xset_mono h a e⟩
theorem xHM_push {h : xH} {pc k : Nat} {e : va_E} {L : xL} {st : List Value} : xHM h (some (.inl (pc, L, st, xpush h k e))) := fun _ z => by cases z; exact ⟨_, rfl, xpush_mono h k e⟩
theorem xHM_wr {h : xH} {pc a ci k : Nat} {v : Value} {L : xL} {st : List Value} : xHM h ((xwr h a ci k v).bind fun h' => some (.inl (pc, L, st, h'))) := fun _ z => by
  obtain ⟨h', h1, h2⟩ := Option.bind_eq_some_iff.mp z
  cases h2
  obtain ⟨fs, -, -, rfl⟩ := xwr_eq h1
  exact ⟨_, rfl, xset_mono h a _⟩
theorem xHM_bind {h : xH} {α : Type} {o : Option α} {f : α → xS} (hf : ∀ a, xHM h (f a)) : xHM h (o.bind f) := fun y z => by
  obtain ⟨a, -, h2⟩ := Option.bind_eq_some_iff.mp z
  exact hf a y h2
theorem xHM_ite {h : xH} {c : Prop} [Decidable c] {a b : xS} (ha : xHM h a) (hb : xHM h b) : xHM h (if c then a else b) := by
  split
  · exact ha
  · exact hb
theorem xmath_h {i : xI} {pc : Nat} {L : xL} {st : List Value} {h : xH} : xHM h (xmath i pc L st h) := by
  unfold xmath
  split <;> (try unfold xbin) <;> repeat' (first | exact xHM_same | exact xHM_none | (refine xHM_bind fun _ => ?_) | (refine xHM_ite ?_ ?_))
theorem xvars_h {i : xI} {pc : Nat} {L : xL} {st : List Value} {h : xH} : xHM h (xvars i pc L st h) := by
  unfold xvars
  split <;> repeat' (first | exact xHM_same | exact xHM_none | (refine xHM_bind fun _ => ?_) | (refine xHM_ite ?_ ?_))
theorem xbranch_h {i : xI} {pc : Nat} {L : xL} {st : List Value} {h : xH} : xHM h (xbranch i pc L st h) := by
  unfold xbranch
  split <;> (try unfold xgo) <;> repeat' (first | exact xHM_same | exact xHM_none | (refine xHM_bind fun _ => ?_) | (refine xHM_ite ?_ ?_))
theorem xmem_h {K : xK} {i : xI} {pc : Nat} {L : xL} {st : List Value} {h : xH} : xHM h (xmem K i pc L st h) := by
  unfold xmem
  split <;> repeat' (first | exact xHM_same | exact xHM_none | exact xHM_set | exact xHM_push | exact xHM_wr | (refine xHM_bind fun _ => ?_) | (refine xHM_ite ?_ ?_) | split)
def xHC (h : xH) (o : xS) : Prop := ∀ y, o = some y → (∃ x' : xX, y = .inl x' ∧ xMono h x'.2.2.2) ∨ ∃ r : xR, y = .inr r ∧ xMono h r.2
theorem xHM.hc {h : xH} {o : xS} (a : xHM h o) : xHC h o := fun y z => Or.inl (a y z)
theorem xHC_end {h : xH} {o : xO} : xHC h (some (.inr (o, h))) := fun _ z => by cases z; exact Or.inr ⟨_, rfl, xMono.rfl' h⟩
theorem xHC_bind {h : xH} {α : Type} {o : Option α} {f : α → xS} (hf : ∀ a, xHC h (f a)) : xHC h (o.bind f) := fun y z => by
  obtain ⟨a, -, h2⟩ := Option.bind_eq_some_iff.mp z
  exact hf a y h2
theorem xHC_ite {h : xH} {c : Prop} [Decidable c] {a b : xS} (ha : xHC h a) (hb : xHC h b) : xHC h (if c then a else b) := by
  split
  · exact ha
  · exact hb
theorem xcall_h {K : xK} {kd idx pc : Nat} {L : xL} {st : List Value} {h : xH} (h4 : ¬ kd = 4) (hK : ∀ idx c0 as r, xca K idx = some c0 → ¬ (c0.1 = 3 ∨ c0.1 = 4) → c0.2.2.2 as h = some r → xMono h r.2) : xHC h (xcall K kd idx pc L st h) := by
  intro y hs
  obtain ⟨c0, As, hc, hk, hlen, h1 | h1 | h1 | h1⟩ := xcall_eq hs
  · obtain ⟨k0, t, r, -, -, hf, hbk⟩ := h1
    have hm := hK _ _ _ _ hc (by rw [hk, k0]; decide) hf
    rcases xback_eq hbk with ⟨v, hv, rfl⟩ | ⟨x, hv, rfl⟩
    · exact Or.inl ⟨_, rfl, hm⟩
    · exact Or.inr ⟨_, rfl, hm⟩
  · obtain ⟨-, b, t, -, -, rfl⟩ := h1
    exact Or.inl ⟨_, rfl, xMono.rfl' h⟩
  · obtain ⟨k1, b, t, r, fs, -, -, -, hf, hbk⟩ := h1
    have hm := hK _ _ _ _ hc (by rw [hk, k1]; decide) hf
    rcases xback_eq hbk with ⟨v, hv, rfl⟩ | ⟨x, hv, rfl⟩
    · exact Or.inl ⟨_, rfl, hm⟩
    · exact Or.inr ⟨_, rfl, hm⟩
  · obtain ⟨-, -, k3, b, t, r, -, -, hf, hbk⟩ := h1
    have hm := hK _ _ _ _ hc (by rw [hk]; exact fun w => w.elim k3 h4) hf
    obtain ⟨v, hv, rfl⟩ := xbackI_eq hbk
    exact Or.inl ⟨_, rfl, hm⟩
theorem xcopy_h {pc : Nat} {L : xL} {st : List Value} {h : xH} : xHM h (xcopy pc L st h) := by
  unfold xcopy
  repeat' (first | exact xHM_none | exact xHM_set | (refine xHM_bind fun _ => ?_) | (refine xHM_ite ?_ ?_))
theorem xcalls_h {K : xK} {i : xI} {pc : Nat} {L : xL} {st : List Value} {h : xH} (hK : ∀ idx c0 as r, xca K idx = some c0 → ¬ (c0.1 = 3 ∨ c0.1 = 4) → c0.2.2.2 as h = some r → xMono h r.2) : xHC h (xcalls K i pc L st h) := by
  unfold xcalls
  split <;> repeat' (first | exact xHC_end | exact xHM_none.hc | exact xcopy_h.hc | exact xcall_h (by decide) hK | (refine xHC_bind fun _ => ?_) | (refine xHC_ite ?_ ?_))
theorem xsem_h {K : xK} {i : xI} {pc : Nat} {L : xL} {st : List Value} {h : xH} (hK : ∀ idx c0 as r, xca K idx = some c0 → ¬ (c0.1 = 3 ∨ c0.1 = 4) → c0.2.2.2 as h = some r → xMono h r.2) : xHC h (xsem K i pc L st h) := by
  unfold xsem
  repeat' (first | exact xmath_h.hc | exact xvars_h.hc | exact xbranch_h.hc | exact xmem_h.hc | exact xcalls_h hK | exact xHM_none.hc | (refine xHC_ite ?_ ?_))
theorem x_mono {K : xK} (hK : ∀ idx c0 as h r, xca K idx = some c0 → ¬ (c0.1 = 3 ∨ c0.1 = 4) → c0.2.2.2 as h = some r → xMono h r.2) : ∀ (n : Nat) (x : xX) (r : xR), xrun K n x = some r → xMono x.2.2.2 r.2
  | 0, _, _, hr => by simp [xrun] at hr
  | n + 1, x, r, hr => by
    unfold xrun at hr
    obtain ⟨y, h1, h2⟩ := Option.bind_eq_some_iff.mp hr
    obtain ⟨i, -, h4⟩ := Option.bind_eq_some_iff.mp h1
    rcases xsem_h (fun idx c0 as r a b d => hK idx c0 as _ r a b d) y h4 with ⟨x', rfl, hm⟩ | ⟨r', rfl, hm⟩
    · exact hm.trans (x_mono hK n x' r h2)
    · cases h2
      exact hm
end XH
section XV
variable {z : xzs} {l : Launch} {cc : ByteArray} {nL rF rL : Nat} {Ts : List Cond} {own : String} {K : xK} {D : va_G} {dA : Nat → ClassId}
theorem xGood.mono {ini : Prop} (G : xGood z l K own cc nL Ts ini rF rL) : ∀ idx c0 as h r, xca K idx = some c0 → ¬ (c0.1 = 3 ∨ c0.1 = 4) → c0.2.2.2 as h = some r → xMono h r.2 := by
  intro idx c0 as h r h1 h2 h3
  rcases G.2.2.2.2.2 idx c0 h1 with ⟨z, -⟩ | ⟨z, -⟩ | ⟨y, bytes, maxL, ret, w, w', cF, cL, hct, -⟩
  · exact absurd (Or.inl z) h2
  · exact absurd (Or.inr z) h2
  · exact (hct _ _ _ h3).1
set_option maxHeartbeats 1000000 in
theorem x_sound {p : Program} {e : Env} {R : Room} {s : State} {m : MethodId} {args : Array Value} {below : List Frame} {meth : Method} {c : Code} {ini : Prop} {h0 : xH} (F : xFix z p s m args meth c cc nL Ts own R rF rL D dA h0) (G : xGood z l K own cc nL Ts ini rF rL) (hini : ini → meth.name = "<init>") (hret : meth.sig.returnType = xrt K)
    (hty0 : xaty[0]? = some .int) (hty1 : xaty[1]? = some .boolean) : ∀ (n : Nat) (x : xX) (r : xR), xrun K n x = some r → xMono h0 x.2.2.2 → xn r.2 - s.heap.size ≤ R.cells → r.2.2.1 - h0.2.1 ≤ R.slots →
    ∀ (ls : Array Slot) (H : Heap) (locs : List Loc), xlv ls nL x.2.1 → xAt D dA s locs x.2.2.2 H → W p l e R s m args below meth c H locs (xn x.2.2.2 - s.heap.size) (x.2.2.2.2.1 - h0.2.1) (xZ below args s D dA h0 r) (F0 m x.1 ls x.2.2.1)
  | 0, _, _, hr, _, _, _, _, _, _, _, _ => by simp [xrun] at hr
  | n + 1, x, r, hr, hm0, hrc, hrs, ls, H, locs, hl0, hA => by
    have hmo := x_mono G.mono (n + 1) x r hr
    obtain ⟨pc, L0, st, h⟩ := x
    unfold xrun at hr
    obtain ⟨y, h1, h2⟩ := Option.bind_eq_some_iff.mp hr
    obtain ⟨i, hi, h4⟩ := Option.bind_eq_some_iff.mp h1
    obtain ⟨hd, hn, hGi, hGz⟩ := G.1 pc i hi
    have hl : xlv ls nL (xmask (xmk K pc) L0) := hl0.sub (fun q hq => xmask_mem hq)
    have h4 : xsem K i pc (xmask (xmk K pc) L0) st h = some y := h4
    generalize xmask (xmk K pc) L0 = L at h4 hl
    have hm0 : xMono h0 h := hm0
    have hA : xAt D dA s locs h H := hA
    show W p l e R s m args below meth c H locs (xn h - s.heap.size) (h.2.1 - h0.2.1) (xZ below args s D dA h0 r) (F0 m pc ls st)
    obtain ⟨S, hRR, hK, hlocks, hex, hsz⟩ := id F
    obtain ⟨hx, hb, hml, hown, hts⟩ := id S
    have hb0 : h.1 = h0.1 := hm0.1
    have hb1 : h.1 ≤ s.heap.size := by rw [hsz, hb0]; unfold xn; omega
    have hb2 : s.heap.size ≤ xn h := by rw [hsz]; exact hm0.n
    have hs0 : h0.2.1 ≤ h.2.1 := hm0.2.2
    have next : ∀ (x' : xX), y = .inl x' → xMono h x'.2.2.2 → xrun K n x' = some r ∧ xMono x'.2.2.2 r.2 ∧ xMono h0 x'.2.2.2 := by
      intro x' e1 e2
      subst e1
      exact ⟨h2, x_mono G.mono n x' r h2, hm0.trans e2⟩
    unfold xsem at h4
    split at h4
    · obtain ⟨pc', st', rfl, step⟩ := xo_math (p := p) (l := l) (e := e) (R := R) (s := s) (m := m) (args := args) (below := below) (meth := meth) (c := c) (H := H) (locs := locs) (cells := xn h - s.heap.size) (slots := h.2.1 - h0.2.1) (Q := xZ below args s D dA h0 r) (ls := ls) hx hb hd h4
      exact step (x_sound F G hini hret hty0 hty1 n _ r h2 hm0 hrc hrs ls H locs hl hA)
    · split at h4
      · obtain ⟨pc', L', st', rfl, step⟩ := xo_vars (p := p) (l := l) (e := e) (R := R) (s := s) (m := m) (args := args) (below := below) (meth := meth) (c := c) (H := H) (locs := locs) (cells := xn h - s.heap.size) (slots := h.2.1 - h0.2.1) (Q := xZ below args s D dA h0 r) (ls := ls) hx hb hd hn h4
        exact step hl (fun ls' hl' => x_sound F G hini hret hty0 hty1 n _ r h2 hm0 hrc hrs ls' H locs hl' hA)
      · split at h4
        · obtain ⟨pc', st', rfl, step⟩ := xo_branch (p := p) (l := l) (e := e) (R := R) (s := s) (m := m) (args := args) (below := below) (meth := meth) (c := c) (H := H) (locs := locs) (cells := xn h - s.heap.size) (slots := h.2.1 - h0.2.1) (Q := xZ below args s D dA h0 r) (ls := ls) hx hb hd h4
          exact step (x_sound F G hini hret hty0 hty1 n _ r h2 hm0 hrc hrs ls H locs hl hA)
        · split at h4
          · have hK' : xk z D dA h.1 s := by rw [hb0]; exact hK
            obtain ⟨pc', st', h', rfl, hm, step⟩ := xo_mem (p := p) (l := l) (e := e) (R := R) (s := s) (m := m) (args := args) (below := below) (meth := meth) (c := c) (H := H) (locs := locs) (s0 := h0.2.1) (Q := xZ below args s D dA h0 r) (ls := ls) hx hb hd hown hts hini hK' G.2.1 G.2.2.1 G.2.2.2.1 G.2.2.2.2.1 hGi hGz hty0 hty1 h4
            obtain ⟨k1, k2, k3⟩ := next _ rfl hm
            have k4 := k2.n
            have k5 := k2.2.2
            refine step hb1 hb2 hs0 ?_ ?_ hA (fun H' locs' hA' => x_sound F G hini hret hty0 hty1 n _ r h2 k3 hrc hrs ls H' locs' hl hA')
            · have k4 : xn h' ≤ xn r.2 := k4
              omega
            · have k5 : h'.2.1 ≤ r.2.2.1 := k5
              omega
          · split at h4
            · rcases xo_calls (p := p) (l := l) (e := e) (R := R) (s := s) (m := m) (args := args) (below := below) (meth := meth) (c := c) (H := H) (locs := locs) (Q := xZ below args s D dA h0 r) (ls := ls) F hm0 hd hret hty0 G.2.2.2.2.2 h4 with ⟨st', h', rfl, hm, step⟩ | ⟨r', rfl, hm, step⟩
              · obtain ⟨k1, k2, k3⟩ := next _ rfl hm
                have k4 := k2.n
                have k5 := k2.2.2
                refine step hl ?_ ?_ hA (fun H' locs' hA' => x_sound F G hini hret hty0 hty1 n _ r h2 k3 hrc hrs ls H' locs' hl hA')
                · have k4 : xn h' ≤ xn r.2 := k4
                  omega
                · have k5 : h'.2.1 ≤ r.2.2.1 := k5
                  omega
              · cases h2
                exact step hl hrc hrs hA
            · cases h4
theorem xargs_eq : ∀ (as : List Value) (i : Nat), as.all (fun v => v.category == 1) = true → lv_args i as = xargs i as ∧ (lg_sl as).length = as.length ∧ ∀ q ∈ xargs i as, q.2.category = 1
  | [], i, _ => ⟨rfl, rfl, fun q hq => by simp [xargs] at hq⟩
  | v :: vs, i, h => by
    simp only [List.all_cons, Bool.and_eq_true, beq_iff_eq] at h
    obtain ⟨h1, h2, h3⟩ := xargs_eq vs (i + 1) h.2
    refine ⟨?_, ?_, fun q hq => ?_⟩
    · simp only [lv_args, xargs, h.1]
      rw [if_neg (by decide), h1]
    · have : lg_sl (v :: vs) = Slot.val v :: lg_sl vs := by simp [lg_sl, h.1]
      rw [this, List.length_cons, h2, List.length_cons]
    · simp only [xargs, List.mem_cons] at hq
      rcases hq with rfl | hq
      · exact h.1
      · exact h3 q hq
/-- A METHOD DOES WHAT ITS TABLE'S RUN SAYS -/
theorem xCt_of {y : MethodName} {w w' : List Cond} (hy : plainName y.cls = true) (hw : w = Cond.code y cc nL (xrt K) :: w') (hown : y.cls = own) (G : xGood z l K own cc nL w (y.name = "<init>") rF rL) (hty0 : xaty[0]? = some .int) (hty1 : xaty[1]? = some .boolean) : xCt z l y w rF rL (xfun K nL) := by
  intro as h r hf
  unfold xfun at hf
  split at hf
  · rename_i hc
    obtain ⟨hlen, hcat⟩ := hc
    obtain ⟨n, hr⟩ := xev_run hf
    have hmo := x_mono G.mono n _ r hr
    refine ⟨hmo, fun D dA => ⟨fun v hv => ?_, fun a hv => ?_⟩⟩
    · refine Met.ofW (cc := cc) (maxL := nL) (ret := xrt K) hy hw ?_
      intro p e s m args below meth c s₁ B hml hv0
      obtain ⟨rfl, ⟨hsz, hP⟩, hK⟩ := hv0
      have hts := atoms_spec (ws := w) B.pre
      have hnm : s.vm.findClass own = some m.cls := by rw [← hown]; exact findClass_of_methodNamed B.named
      have hin : y.name = "<init>" → meth.name = "<init>" := fun z => (name_of_methodNamed B.named B.method).1.trans z
      have hex : c.exceptionTable.isEmpty = true := B.noHandlers (hts _ (by rw [hw]; exact List.mem_cons_self))
      obtain ⟨ha1, ha2, ha3⟩ := xargs_eq as 0 hcat
      have F : xFix z p s m as.toArray meth c cc nL w own (headSpec w (xRm rF rL h r.2)).room rF rL D dA h := ⟨⟨B.exec, B.bytes, hml, hnm, hts⟩, ⟨rfl, rfl⟩, hK, B.notSynchronized, hex, hsz⟩
      have hl := lv_entry as (n := nL) (by rw [ha2]; exact hlen)
      rw [lg_entry_eq]
      generalize (lg_sl as ++ List.replicate (nL - (lg_sl as).length) Slot.unset).toArray = ls at hl ⊢
      rw [ha1] at hl
      have key := x_sound (e := e) (below := below) F G hin B.returns hty0 hty1 n _ r hr (xMono.rfl' h) (by rw [hsz]; exact Nat.le_refl _) (Nat.le_refl _) ls s.heap [] ⟨hl, ha3⟩ ⟨hP, va_S.rf⟩
      unfold xZ at key
      rw [hv] at key
      rw [hsz] at key
      simp only [Nat.sub_self] at key
      exact key
    · refine MetT.ofW (cc := cc) (maxL := nL) (ret := xrt K) hy hw ?_
      intro p e s m args below meth c s₁ B hml hv0
      obtain ⟨rfl, ⟨hsz, hP⟩, hK⟩ := hv0
      have hts := atoms_spec (ws := w) B.pre
      have hnm : s.vm.findClass own = some m.cls := by rw [← hown]; exact findClass_of_methodNamed B.named
      have hin : y.name = "<init>" → meth.name = "<init>" := fun z => (name_of_methodNamed B.named B.method).1.trans z
      have hex : c.exceptionTable.isEmpty = true := B.noHandlers (hts _ (by rw [hw]; exact List.mem_cons_self))
      obtain ⟨ha1, ha2, ha3⟩ := xargs_eq as 0 hcat
      have F : xFix z p s m as.toArray meth c cc nL w own (headSpec w (xRm rF rL h r.2)).room rF rL D dA h := ⟨⟨B.exec, B.bytes, hml, hnm, hts⟩, ⟨rfl, rfl⟩, hK, B.notSynchronized, hex, hsz⟩
      have hl := lv_entry as (n := nL) (by rw [ha2]; exact hlen)
      rw [lg_entry_eq]
      generalize (lg_sl as ++ List.replicate (nL - (lg_sl as).length) Slot.unset).toArray = ls at hl ⊢
      rw [ha1] at hl
      have key := x_sound (e := e) (below := below) F G hin B.returns hty0 hty1 n _ r hr (xMono.rfl' h) (by rw [hsz]; exact Nat.le_refl _) (Nat.le_refl _) ls s.heap [] ⟨hl, ha3⟩ ⟨hP, va_S.rf⟩
      unfold xZ at key
      rw [hv] at key
      rw [hsz] at key
      simp only [Nat.sub_self] at key
      exact key
  · cases hf
end XV
