/-! The reference: thread, await, answer, delete. -/
section MK
variable {z : xzs} {h : xH} {m : Nat} {s : mS}
-- thread
def mThr (s : mS) (t : Nat) (w : Int32) : Int32 := if w = 0 then s 15 t else if w = 1 then s 16 t else if w = 2 then s 17 t else if w = 3 then s 18 t else if w = 4 then s 19 t else s 20 t
theorem t_thr23 (ok : mOk h m) : mDone z h m (B_M_thread_23 z m (mPut h m s)) (1, 0, s) := by
  refine ⟨sS s 0 0 1, E_M_thread_23 z m _ _ ?_, (mEq.rf s).sc (Or.inl rfl) 0 _, sS_same _ _ _ _⟩
  simp only [D_M_thread_23, xisO_m ok, ic_1, t_M_fail ok, xclI_some, Option.bind_some]
theorem t_M_thread_bad (ok : mOk h m) {p1 p2 : Int32} (hr : ¬ (rIn p1 1 (nI 3) ∧ rIn p2 0 (nI 5))) : mDone z h m (f_M_thread z [.ref m, .int p1, .int p2] (mPut h m s)) (1, 0, s) := by
  refine f_done (E_M_thread z m p1 p2 (mPut h m s)) ?_
  have e0 : mEq s (sS s 0 0 0) := (mEq.rf s).sc (Or.inl rfl) 0 _
  simp only [D_M_thread_0, mw_code ok, t_M_within, xclI_some, ic_0, ic_1, ic_3, ic_5, Option.bind_some]
  by_cases h1 : rIn p1 1 (nI 3)
  · rw [if_neg (fun w => ((xif_in _ _ _).mp w) h1)]
    by_cases h2 : rIn p2 0 (nI 5)
    · exact absurd ⟨h1, h2⟩ hr
    · rw [if_neg (fun w => w ((xif_in _ _ _).mpr h2))]
      exact (t_thr23 ok).eq e0
  · rw [if_pos ((xif_in _ _ _).mpr h1)]
    exact (t_thr23 ok).eq e0
theorem t_M_thread (ok : mOk h m) {t : Nat} {p2 : Int32} (h0 : 0 < t) (ht : t < 4) (h2 : rIn p2 0 (nI 5)) : mDone z h m (f_M_thread z [.ref m, .int (nI t), .int p2] (mPut h m s)) (0, mThr s t p2, s) := by
  have h1 := r_thr h0 ht
  refine ⟨sS s 0 0 0, E_M_thread z m _ _ _ _ ?_, (mEq.rf s).sc (Or.inl rfl) 0 _, sS_same _ _ _ _⟩
  simp only [D_M_thread_0, mw_code ok, t_M_within, xclI_some, ic_0, ic_1, ic_3, ic_5, mr_state ok, ma_state ok ht, mr_outcome ok, ma_outcome ok ht, mr_word ok, ma_word ok ht, mr_badgeCame ok, ma_badgeCame ok ht, mr_address ok, ma_address ok ht, mr_priority ok, ma_priority ok ht, Option.bind_some]
  rw [if_neg (fun w => ((xif_in _ _ _).mp w) h1), if_pos (fun w => ((xif_in _ _ _).mp w) h2)]
  unfold mThr
  simp only [sS_app, Nat.reduceEqDiff, false_and, ↓reduceIte]
  split
  · rfl
  · split
    · rfl
    · split
      · rfl
      · split
        · rfl
        · split <;> rfl
-- the beginning that many share: one address
theorem w_one (ok : mOk h m) {p1 : Int32} (hr : mNow s = 0 ∨ ¬ rAd p1) : ∃ σ, f_M_begins z [.ref m, .int (if p1 < 0 ∨ nI 71 < p1 then 0 else 1)] (mPut h m s) = some (.inl (some (.int 0)), mPut h m σ) ∧ mEq s σ ∧ σ 0 0 = (mRef s).1 := by
  refine w_refuse ok ?_ (hr.imp id (fun w => (xif_in _ _ _).mpr w))
  split
  · exact Or.inl rfl
  · exact Or.inr rfl
theorem rAd_nI {a : Nat} (ha : a < 72) : rAd (nI a) := by
  rintro (w | w)
  · exact nI_pos (by omega) w
  · exact nI_nlt (by omega) (by decide) w
theorem xif_ad {a : Nat} (ha : a < 72) : (if nI a < 0 ∨ nI 71 < nI a then (0 : Int32) else 1) = 1 := if_neg (rAd_nI ha)
-- await
def mAwaitG (s : mS) (t a : Nat) : mR := if mCapa s t a = 0 then (nI 2, 0, s) else if ¬ s 1 (vN (s 8 (vN (mCapa s t a)))) = nI 2 then (1, 0, s) else if ¬ s 9 (vN (mCapa s t a)) &&& 1 = 1 then (nI 3, 0, s)
  else if s 4 (vN (s 8 (vN (mCapa s t a)))) = 0 then (0, 1, mWaits s t (nI 5) (s 8 (vN (mCapa s t a)))) else (0, 0, sS (mComes s t (s 4 (vN (s 8 (vN (mCapa s t a))))) 0 (-1)) 4 (vN (s 8 (vN (mCapa s t a)))) 0)
theorem t_await28 (H : xH) : B_M_await_28 z H = some (.inl (some (.int 0)), H) := by
  refine E_M_await_28 z H _ ?_
  unfold D_M_await_28
  rw [ic_0]
theorem t_M_await_bad (ok : mOk h m) {p1 : Int32} (hr : mNow s = 0 ∨ ¬ rAd p1) : mDone z h m (f_M_await z [.ref m, .int p1] (mPut h m s)) (mRef s) := by
  obtain ⟨σ, e1, q1, c1⟩ := w_one (z := z) ok hr
  refine ⟨σ, E_M_await z m _ _ _ ?_, q1, c1⟩
  simp only [D_M_await_0, t_M_reaches, xclI_some, xisO_m ok, e1, Option.bind_some]
  rw [if_pos trivial, t_await28]
  rfl
theorem t_M_await (ok : mOk h m) (W : mWF s) {a t : Nat} (ht : mNow s = t) (ht0 : t ≠ 0) (ha : a < 72) : mDone z h m (f_M_await z [.ref m, .int (nI a)] (mPut h m s)) (mAwaitG s t a) := by
  have ht4 : t < 4 := by rw [← ht]; exact mNow_lt s
  obtain ⟨σ1, e1, -, -, K1⟩ := w_begins (z := z) (s := s) ok 1
  have K1 := K1 (by rw [ht]; exact ht0) (by decide)
  rw [xb_same ⟨by rw [ht]; exact ht0, by decide⟩] at e1
  rw [ht] at K1
  obtain ⟨σ2, e2, q2, c2, K2, -⟩ := w_has (z := z) ok W ht4 ha K1
  refine f_done (E_M_await z m (nI a) (mPut h m s)) ?_
  unfold mAwaitG
  by_cases hc : mCapa s t a = 0
  · rw [if_pos hc]
    refine ⟨σ2, ?_, q2, c2 hc⟩
    rw [xb_not (fun w => w hc)] at e2
    simp only [D_M_await_0, t_M_reaches, xif_ad ha, xisO_m ok, e1, xclI_some, Option.bind_some, e2]
    rw [if_neg (by decide), if_pos trivial, t_await28]
  · rw [if_neg hc]
    rw [xb_same hc] at e2
    obtain ⟨K2, h39⟩ := K2 hc
    obtain ⟨c, hcl, hce⟩ : ∃ c, c < 1200 ∧ mCapa s t a = nI c := ⟨_, (mCapa_isN W ht4 ha).2, (mCapa_isN W ht4 ha).1⟩
    have vc : vN (nI c) = c := vN_nI (by omega)
    rw [hce] at h39
    rw [hce, vc]
    obtain ⟨σ3, e3, q3, d1, d2, d3⟩ := w_is (z := z) ok W hcl K2 h39 (nI 2) 1
    by_cases g1 : s 1 (vN (s 8 c)) = nI 2
    · rw [if_neg (fun w => w g1)]
      by_cases g2 : s 9 c &&& 1 = 1
      · rw [if_neg (fun w => w g2)]
        rw [xb_same ⟨g1, g2⟩, d3 g1 g2] at e3
        obtain ⟨q2', h38, h00⟩ := K2
        obtain ⟨o, hol, hoe⟩ : ∃ o, o < 50 ∧ s 8 c = nI o := ⟨_, (W.2 _ hcl).2, (W.2 _ hcl).1⟩
        have vo : vN (nI o) = o := vN_nI (by omega)
        rw [hoe, vo]
        have s8 : σ2 8 c = nI o := by rw [q2 8 (by decide)]; exact hoe
        have s4 : σ2 4 = s 4 := q2 4 (by decide)
        by_cases g3 : s 4 o = 0
        · rw [if_pos g3]
          refine ⟨mWaits σ2 t (nI 5) (nI o), ?_, q2.waits _ _ _, ?_⟩
          · simp only [D_M_await_0, t_M_reaches, xif_ad ha, xisO_m ok, e1, xclI_some, Option.bind_some, e2, ic_2, ic_1, ic_5, e3, mr_of ok, mr_cap ok, h39, ma_of ok hcl, s8, mr_bits ok, ma_bits ok hol, s4, mr_at ok, h38, t_M_waits ok ht4, xclV_some]
            rw [if_neg (by decide), if_neg (by decide), if_pos (by decide), if_neg (fun w => w g3)]
          · show mWaits σ2 t (nI 5) (nI o) 0 0 = 0
            unfold mWaits
            simp only [sS_app, Nat.reduceEqDiff, false_and, ↓reduceIte]
            exact h00
        · rw [if_neg g3]
          refine ⟨sS (mComes σ2 t (s 4 o) 0 (-1)) 4 o 0, ?_, (q2.comes _ _ _ _).sS _ _ _, ?_⟩
          · simp only [D_M_await_0, t_M_reaches, xif_ad ha, xisO_m ok, e1, xclI_some, Option.bind_some, e2, ic_2, ic_1, ic_0, ic_m1, e3, mr_of ok, mr_cap ok, h39, ma_of ok hcl, s8, mr_bits ok, ma_bits ok hol, s4, mr_at ok, h38, t_M_comes ok ht4, xclV_some, mw_bits ok hol]
            rw [if_neg (by decide), if_neg (by decide), if_pos (by decide), if_pos g3]
          · show sS (mComes σ2 t (s 4 o) 0 (-1)) 4 o 0 0 0 = 0
            unfold mComes
            simp only [sS_app, Nat.reduceEqDiff, false_and, ↓reduceIte]
            exact h00
      · rw [if_pos g2]
        rw [xb_not (fun w => g2 w.2)] at e3
        refine ⟨σ3, ?_, q3, d2 g1 g2⟩
        simp only [D_M_await_0, t_M_reaches, xif_ad ha, xisO_m ok, e1, xclI_some, Option.bind_some, e2, ic_2, ic_1, e3]
        rw [if_neg (by decide), if_neg (by decide), if_neg (fun w => w trivial), t_await28]
    · rw [if_pos g1]
      rw [xb_not (fun w => g1 w.1)] at e3
      refine ⟨σ3, ?_, q3, d1 g1⟩
      simp only [D_M_await_0, t_M_reaches, xif_ad ha, xisO_m ok, e1, xclI_some, Option.bind_some, e2, ic_2, ic_1, e3]
      rw [if_neg (by decide), if_neg (by decide), if_neg (fun w => w trivial), t_await28]
-- delete
theorem t_del31 (x : Int32) (H : xH) : B_M_delete_31 z x H = some (.inl (some (.int x)), H) := by
  refine E_M_delete_31 z x H _ ?_
  unfold D_M_delete_31
  rfl
theorem t_del30 (H : xH) : B_M_delete_30 z H = some (.inl (some (.int 0)), H) := by
  refine E_M_delete_30 z H _ ?_
  unfold D_M_delete_30
  rw [ic_0, t_del31]
theorem t_M_delete_bad (ok : mOk h m) {p1 : Int32} (hr : mNow s = 0 ∨ ¬ rAd p1) : mDone z h m (f_M_delete z [.ref m, .int p1] (mPut h m s)) (mRef s) := by
  obtain ⟨σ, e1, q1, c1⟩ := w_one (z := z) ok hr
  refine ⟨σ, E_M_delete z m _ _ _ ?_, q1, c1⟩
  simp only [D_M_delete_0, t_M_reaches, xclI_some, xisO_m ok, e1, Option.bind_some]
  rw [if_pos trivial, t_del30]
  rfl
end MK
