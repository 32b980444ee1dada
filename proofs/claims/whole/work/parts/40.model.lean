/-! The reference: copy, current, pass, priority, thread, whole. -/
section MJ
variable {z : xzs} {h : xH} {m : Nat} {s : mS}
/-- an action that is refused at once: nobody is CURRENT, or a number is out of its range -/
def mRef (s : mS) : mR := (if mNow s = 0 then nI 4 else 1, 0, s)
theorem w_refuse (ok : mOk h m) {g : Int32} (hg : g = 0 ∨ g = 1) (hr : mNow s = 0 ∨ g = 0) : ∃ σ, f_M_begins z [.ref m, .int g] (mPut h m s) = some (.inl (some (.int 0)), mPut h m σ) ∧ mEq s σ ∧ σ 0 0 = (mRef s).1 := by
  obtain ⟨σ, e1, q1, c1, -⟩ := w_begins (z := z) (s := s) ok g
  rw [xb_not (by rintro ⟨w1, w2⟩; rcases hr with w | w; exact w1 w; exact w2 w)] at e1
  refine ⟨σ, e1, q1, ?_⟩
  rw [c1]
  show _ = (if mNow s = 0 then nI 4 else 1)
  by_cases hn : mNow s = 0
  · rw [if_pos hn, if_pos hn]
  · rw [if_neg hn, if_neg hn, if_pos (hr.resolve_left hn)]
-- copy
theorem t_copy30r (ok : mOk h m) {g p1 p2 p3 : Int32} (hg : g = 0 ∨ g = 1) (hr : mNow s = 0 ∨ g = 0) : mDone z h m (B_M_copy_30 z m p1 p2 p3 g (some m) (mPut h m s)) (mRef s) := by
  obtain ⟨σ, e1, q1, c1⟩ := w_refuse (z := z) (s := s) ok hg hr
  refine ⟨σ, E_M_copy_30 z m _ _ _ _ _ _ _ ?_, q1, c1⟩
  simp only [D_M_copy_30, xisO_m ok, e1, xclI_some, Option.bind_some]
  rw [if_pos trivial, t_copy76]
  rfl
theorem t_copy29 (ok : mOk h m) {p1 p2 p3 : Int32} : mDone z h m (B_M_copy_29 z m p1 p2 p3 (some m) (mPut h m s)) (mRef s) := by
  obtain ⟨σ, e1, q1, c1⟩ := t_copy30r (z := z) (s := s) (p1 := p1) (p2 := p2) (p3 := p3) ok (Or.inl rfl) (Or.inr rfl)
  refine ⟨σ, E_M_copy_29 z m _ _ _ _ _ _ ?_, q1, c1⟩
  unfold D_M_copy_29
  rw [ic_0]
  exact e1
theorem f_done {o : Option xR} {a : Option xR} {q : mR} (ha : xle a o) (hd : mDone z h m a q) : mDone z h m o q := by
  obtain ⟨σ, e, r⟩ := hd
  exact ⟨σ, ha _ e, r⟩
/-- copy: refused, or done -/
theorem t_M_copy_bad (ok : mOk h m) {p1 p2 p3 : Int32} (hr : mNow s = 0 ∨ ¬ (rAd p1 ∧ rAd p2 ∧ rIn p3 0 (nI 7))) : mDone z h m (f_M_copy z [.ref m, .int p1, .int p2, .int p3] (mPut h m s)) (mRef s) := by
  refine f_done (E_M_copy z m p1 p2 p3 (mPut h m s)) ?_
  simp only [D_M_copy_0, t_M_reaches, t_M_within, xclI_some, ic_0, bc_7, ic_1]
  by_cases h1 : rAd p1
  · rw [if_neg (fun w => ((xif_in _ _ _).mp w) h1)]
    by_cases h2 : rAd p2
    · rw [if_neg (fun w => ((xif_in _ _ _).mp w) h2)]
      by_cases h3 : rIn p3 0 (nI 7)
      · rw [if_neg (fun w => ((xif_in _ _ _).mp w) h3)]
        exact t_copy30r ok (Or.inr rfl) (Or.inl (hr.resolve_right (fun w => w ⟨h1, h2, h3⟩)))
      · rw [if_pos ((xif_in _ _ _).mpr h3)]
        exact t_copy29 ok
    · rw [if_pos ((xif_in _ _ _).mpr h2)]
      exact t_copy29 ok
  · rw [if_pos ((xif_in _ _ _).mpr h1)]
    exact t_copy29 ok
theorem t_M_copy (ok : mOk h m) (W : mWF s) {n a b : Nat} {p3 : Int32} (hm : s 13 0 = nI n) (hn : n + 1 < 1200) (ht0 : mNow s ≠ 0) (ha : a < 72) (hb : b < 72) (h3 : rIn p3 0 (nI 7)) : mDone z h m (f_M_copy z [.ref m, .int (nI a), .int (nI b), .int p3] (mPut h m s)) (mCopyG s n (mNow s) a b p3) := by
  refine f_done (E_M_copy z m (nI a) (nI b) p3 (mPut h m s)) ?_
  have r1 : rAd (nI a) := by rintro (w | w); exact nI_pos (by omega) w; exact nI_nlt (by omega) (by decide) w
  have r2 : rAd (nI b) := by rintro (w | w); exact nI_pos (by omega) w; exact nI_nlt (by omega) (by decide) w
  simp only [D_M_copy_0, t_M_reaches, t_M_within, xclI_some, ic_0, bc_7, ic_1]
  rw [if_neg (fun w => ((xif_in _ _ _).mp w) r1), if_neg (fun w => ((xif_in _ _ _).mp w) r2), if_neg (fun w => ((xif_in _ _ _).mp w) h3)]
  exact t_copyG ok W hm hn rfl ht0 ha hb p3
-- current
theorem t_M_current (ok : mOk h m) : mDone z h m (f_M_current z [.ref m] (mPut h m s)) (0, nI (mNow s), s) := by
  refine ⟨sS s 0 0 0, E_M_current z m _ _ ?_, (mEq.rf s).sc (Or.inl rfl) 0 _, sS_same _ _ _ _⟩
  simp only [D_M_current_0, mw_code ok, xisO_m ok, t_M_now ok, xclI_some, Option.bind_some, ic_0, mNow_code]
-- pass
def mPassG (s : mS) : mR := (0, nI (mNow (mReady s (mNow s))), mReady s (mNow s))
theorem t_M_pass (ok : mOk h m) (ht : mNow s ≠ 0) : mDone z h m (f_M_pass z [.ref m] (mPut h m s)) (mPassG s) := by
  obtain ⟨σ, e1, q1, -, K1⟩ := w_begins (z := z) (s := s) ok 1
  obtain ⟨q1, h38, h0⟩ := K1 ht (by decide)
  rw [xb_same ⟨ht, by decide⟩] at e1
  have hl := mNow_lt s
  refine ⟨mReady σ (mNow s), E_M_pass z m _ _ ?_, q1.ready _, ?_⟩
  · simp only [D_M_pass_0, xisO_m ok, ic_1, e1, xclI_some, mr_at ok, h38, t_M_ready ok hl, xclV_some, t_M_now ok, Option.bind_some, (q1.ready (mNow s)).now]
    rw [if_pos (by decide)]
    rfl
  · unfold mReady
    simp only [sS_app, Nat.reduceEqDiff, false_and, ↓reduceIte]
    exact h0
theorem t_M_pass_bad (ok : mOk h m) (ht : mNow s = 0) : mDone z h m (f_M_pass z [.ref m] (mPut h m s)) (mRef s) := by
  obtain ⟨σ, e1, q1, c1⟩ := w_refuse (z := z) (s := s) ok (Or.inr rfl) (Or.inl ht)
  refine ⟨σ, E_M_pass z m _ _ ?_, q1, c1⟩
  simp only [D_M_pass_0, xisO_m ok, ic_1, e1, xclI_some, Option.bind_some, ic_0]
  rw [if_neg (by decide)]
  rfl
-- priority
def mPriG (s : mS) (t : Nat) (p : Int32) : mR := (0, s 20 t, sS s 20 t p)
theorem w_thr {x : Int32} (h0 : rIn x 1 (nI 3)) : ∃ t : Nat, 0 < t ∧ t < 4 ∧ x = nI t := by
  obtain ⟨j, hj, e⟩ := nI_of2 (x := x) (M := nI 3) (n := 3) (by decide) (fun q => h0 (Or.inl (by
    have h1 : (0 : Int32) ≤ 1 := by decide
    exact Int32.lt_of_lt_of_le q h1))) (k2_le (fun q => h0 (Or.inr q)))
  refine ⟨j, ?_, by omega, e⟩
  rcases Nat.eq_zero_or_pos j with w | w
  · subst w
    exact absurd (Or.inl (by rw [e]; decide)) h0
  · exact w
theorem r_thr {t : Nat} (h0 : 0 < t) (ht : t < 4) : rIn (nI t) 1 (nI 3) := by
  rintro (w | w)
  · exact nI_nlt (a := t) (b := 1) h0 (by omega) w
  · exact nI_nlt (a := 3) (b := t) (by omega) (by decide) w
theorem t_pri23 (ok : mOk h m) : mDone z h m (B_M_priority_23 z m (mPut h m s)) (1, 0, s) := by
  refine ⟨sS s 0 0 1, E_M_priority_23 z m _ _ ?_, (mEq.rf s).sc (Or.inl rfl) 0 _, sS_same _ _ _ _⟩
  simp only [D_M_priority_23, xisO_m ok, ic_1, t_M_fail ok, xclI_some, Option.bind_some]
theorem mDone.eq {o : Option xR} {c v : Int32} {s s' : mS} (e : mEq s s') (hd : mDone z h m o (c, v, s')) : mDone z h m o (c, v, s) := by
  obtain ⟨σ, e1, q1, c1⟩ := hd
  exact ⟨σ, e1, e.trans q1, c1⟩
theorem t_M_priority_bad (ok : mOk h m) {p1 p2 : Int32} (hr : ¬ (rIn p1 1 (nI 3) ∧ rIn p2 0 (nI 3))) : mDone z h m (f_M_priority z [.ref m, .int p1, .int p2] (mPut h m s)) (1, 0, s) := by
  refine f_done (E_M_priority z m p1 p2 (mPut h m s)) ?_
  have e0 : mEq s (sS s 0 0 0) := (mEq.rf s).sc (Or.inl rfl) 0 _
  simp only [D_M_priority_0, mw_code ok, t_M_within, xclI_some, ic_0, ic_1, ic_3, Option.bind_some]
  by_cases h1 : rIn p1 1 (nI 3)
  · rw [if_neg (fun w => ((xif_in _ _ _).mp w) h1)]
    by_cases h2 : rIn p2 0 (nI 3)
    · exact absurd ⟨h1, h2⟩ hr
    · rw [if_neg (fun w => w ((xif_in _ _ _).mpr h2))]
      exact (t_pri23 ok).eq e0
  · rw [if_pos ((xif_in _ _ _).mpr h1)]
    exact (t_pri23 ok).eq e0
theorem t_M_priority (ok : mOk h m) {t : Nat} {p2 : Int32} (h0 : 0 < t) (ht : t < 4) (h2 : rIn p2 0 (nI 3)) : mDone z h m (f_M_priority z [.ref m, .int (nI t), .int p2] (mPut h m s)) (mPriG s t p2) := by
  have h1 := r_thr h0 ht
  refine ⟨sS (sS s 0 0 0) 20 t p2, E_M_priority z m _ _ _ _ ?_, ((mEq.rf s).sc (Or.inl rfl) 0 _).sS _ _ _, ?_⟩
  · simp only [D_M_priority_0, mw_code ok, t_M_within, xclI_some, ic_0, ic_1, ic_3, mr_priority ok, ma_priority ok ht, mw_priority ok ht, Option.bind_some]
    rw [if_neg (fun w => ((xif_in _ _ _).mp w) h1), if_pos (fun w => ((xif_in _ _ _).mp w) h2)]
    rfl
  · show sS (sS s 0 0 0) 20 t p2 0 0 = 0
    simp only [sS_app, Nat.reduceEqDiff, false_and, and_self, ↓reduceIte]
end MJ
