/-! The reference: signal. -/
section MO
variable {z : xzs} {h : xH} {m : Nat} {s : mS}
def mC5 (s : mS) (o : Int32) (n k : Nat) : Nat := if s 15 k = nI 5 ∧ s 22 k = o then n + 1 else n
/-- how many threads wait at a notification -/
def mN5 (s : mS) (o : Int32) : Nat := mC5 s o (mC5 s o (mC5 s o 0 1) 2) 3
theorem t_sig148 {o : Int32} {n k : Nat} {r : xR} {H : xH} (hn : B_M_signal_117 z m o (nI n) (nI (k + 1)) H = some r) : B_M_signal_148 z m o (nI n) (nI k) H = some r := by
  refine E_M_signal_148 z m _ _ _ _ _ ?_
  unfold D_M_signal_148
  rw [ic_1n, nI_add]
  exact hn
theorem t_sig_step (ok : mOk h m) {o : Int32} {n k : Nat} {r : xR} (hk : k < 4) (hn : B_M_signal_117 z m o (nI (mC5 s o n k)) (nI (k + 1)) (mPut h m s) = some r) : B_M_signal_117 z m o (nI n) (nI k) (mPut h m s) = some r := by
  refine E_M_signal_117 z m _ _ _ _ _ ?_
  simp only [D_M_signal_117, ic_4, ic_5, mr_state ok, ma_state ok hk, mr_waitsAt ok, ma_waitsAt ok hk, Option.bind_some, ic_1n, nI_add]
  rw [if_neg (nI_ge hk (by decide))]
  unfold mC5 at hn
  by_cases g1 : s 15 k = nI 5
  · rw [if_neg (fun w => w g1)]
    by_cases g2 : s 22 k = o
    · rw [if_pos ⟨g1, g2⟩] at hn
      rw [if_neg (fun w => w g2)]
      exact t_sig148 hn
    · rw [if_neg (fun w => g2 w.2)] at hn
      rw [if_pos g2]
      exact t_sig148 hn
  · rw [if_neg (fun w => g1 w.1)] at hn
    rw [if_pos g1]
    exact t_sig148 hn
theorem t_sig111 (ok : mOk h m) (o : Int32) : B_M_signal_111 z m o (mPut h m s) = some (.inl (some (.int (nI (mN5 s o)))), mPut h m s) := by
  refine E_M_signal_111 z m _ _ _ ?_
  unfold D_M_signal_111
  rw [ic_0n, ic_1n]
  refine t_sig_step ok (by decide) (t_sig_step ok (by decide) (t_sig_step ok (by decide) ?_))
  refine E_M_signal_117 z m _ _ _ _ _ ?_
  unfold D_M_signal_117
  rw [ic_4, if_pos (nI_le (by decide) (by decide))]
  rfl
def mSigB (s : mS) (o : Nat) (b : Int32) : mS := sS s 4 o (s 4 o ||| b)
def mSigW (s : mS) (o : Nat) : mS := if mWaiting s (nI o) (nI 5) (nI 5) = 0 then s else mReady (sS (mComes s (mWaiting s (nI o) (nI 5) (nI 5)) (s 4 o) 0 (-1)) 4 o 0) (mWaiting s (nI o) (nI 5) (nI 5))
theorem t_sig72 (ok : mOk h m) {o : Nat} (ho : o < 50) (b : Int32) : B_M_signal_72 z m (nI o) b (s 4 o) (nI o) (some (m + 4)) (mPut h m s) = some (.inl (some (.int (nI (mN5 (mSigW (mSigB s o b) o) (nI o))))), mPut h m (mSigW (mSigB s o b) o)) := by
  have hw := mWaiting_lt (sS s 4 o (s 4 o ||| b)) (nI o) (nI 5) (nI 5)
  refine E_M_signal_72 z m _ _ _ _ _ _ _ ?_
  simp only [D_M_signal_72, Option.bind_some, mw_bits ok ho, xisO_m ok, ic_5, t_M_waiting ok, xclI_some, ic_0, ic_m1, mr_bits ok, ma_bits ok ho, t_M_comes ok hw, t_M_ready ok hw, xclV_some]
  unfold mSigW mSigB
  by_cases g : mWaiting (sS s 4 o (s 4 o ||| b)) (nI o) (nI 5) (nI 5) = 0
  · rw [if_pos (by rw [g]; decide), if_pos g]
    exact t_sig111 ok _
  · rw [if_neg (nI_nle (by omega) (by omega)), if_neg g]
    exact t_sig111 ok _
def mSignalG (s : mS) (t a : Nat) : mR := if mCapa s t a = 0 then (nI 2, 0, s) else if ¬ s 1 (vN (s 8 (vN (mCapa s t a)))) = nI 2 then (1, 0, s) else if ¬ s 9 (vN (mCapa s t a)) &&& nI 2 = nI 2 then (nI 3, 0, s)
  else (0, nI (mN5 (mSigW (mSigB s (vN (s 8 (vN (mCapa s t a)))) (if s 10 (vN (mCapa s t a)) = 0 then 1 else s 10 (vN (mCapa s t a)))) (vN (s 8 (vN (mCapa s t a))))) (s 8 (vN (mCapa s t a)))), mSigW (mSigB s (vN (s 8 (vN (mCapa s t a)))) (if s 10 (vN (mCapa s t a)) = 0 then 1 else s 10 (vN (mCapa s t a)))) (vN (s 8 (vN (mCapa s t a)))))
theorem mEq.n5 {s σ : mS} (e : mEq s σ) (o : Int32) : mN5 σ o = mN5 s o := by
  unfold mN5 mC5
  rw [e 15 (by decide), e 22 (by decide)]
theorem mEq.sigB {s σ : mS} (e : mEq s σ) (o : Nat) (b : Int32) : mEq (mSigB s o b) (mSigB σ o b) := by
  unfold mSigB
  rw [e 4 (by decide)]
  exact e.sS _ _ _
theorem mEq.sigW {s σ : mS} (e : mEq s σ) (o : Nat) : mEq (mSigW s o) (mSigW σ o) := by
  unfold mSigW
  rw [e.wait, e 4 (by decide)]
  split
  · exact e
  · exact ((e.comes _ _ _ _).sS _ _ _).ready _
theorem mSigW_0 (s : mS) (o : Nat) (b : Int32) : mSigW (mSigB s o b) o 0 0 = s 0 0 := by
  unfold mSigW mSigB
  split
  · simp only [sS_app, Nat.reduceEqDiff, false_and, ↓reduceIte]
  · unfold mReady mComes
    simp only [sS_app, Nat.reduceEqDiff, false_and, ↓reduceIte]
theorem t_sig28 (H : xH) : B_M_signal_28 z H = some (.inl (some (.int 0)), H) := by
  refine E_M_signal_28 z H _ ?_
  unfold D_M_signal_28
  rw [ic_0]
theorem t_M_signal_bad (ok : mOk h m) {p1 : Int32} (hr : mNow s = 0 ∨ ¬ rAd p1) : mDone z h m (f_M_signal z [.ref m, .int p1] (mPut h m s)) (mRef s) := by
  obtain ⟨σ, e1, q1, c1⟩ := w_one (z := z) ok hr
  refine ⟨σ, E_M_signal z m _ _ _ ?_, q1, c1⟩
  simp only [D_M_signal_0, t_M_reaches, xclI_some, xisO_m ok, e1, Option.bind_some]
  rw [if_pos trivial, t_sig28]
  rfl
theorem t_M_signal (ok : mOk h m) (W : mWF s) {a t : Nat} (ht : mNow s = t) (ht0 : t ≠ 0) (ha : a < 72) : mDone z h m (f_M_signal z [.ref m, .int (nI a)] (mPut h m s)) (mSignalG s t a) := by
  have ht4 : t < 4 := by rw [← ht]; exact mNow_lt s
  obtain ⟨σ1, σ2, e1, e2, q2, c2, K2⟩ := w_a (z := z) ok W ht ht0 ha
  refine f_done (E_M_signal z m (nI a) (mPut h m s)) ?_
  unfold mSignalG
  by_cases hc : mCapa s t a = 0
  · rw [if_pos hc]
    refine ⟨σ2, ?_, q2, c2 hc⟩
    rw [xb_not (fun w => w hc)] at e2
    simp only [D_M_signal_0, t_M_reaches, xif_ad ha, xisO_m ok, e1, xclI_some, Option.bind_some, e2]
    rw [if_neg (by decide), if_pos trivial, t_sig28]
  · rw [if_neg hc]
    rw [xb_same hc] at e2
    obtain ⟨K2, c, hcl, hce, h39⟩ := K2 hc
    have vc : vN (nI c) = c := vN_nI (by omega)
    rw [hce, vc]
    obtain ⟨σ3, e3, q3, d1, d2, d3⟩ := w_is (z := z) ok W hcl K2 h39 (nI 2) (nI 2)
    by_cases g1 : s 1 (vN (s 8 c)) = nI 2
    · rw [if_neg (fun w => w g1)]
      by_cases g2 : s 9 c &&& nI 2 = nI 2
      · rw [if_neg (fun w => w g2)]
        rw [xb_same ⟨g1, g2⟩, d3 g1 g2] at e3
        obtain ⟨q2', h38, h00⟩ := K2
        obtain ⟨o, hol, hoe⟩ : ∃ o, o < 50 ∧ s 8 c = nI o := ⟨_, (W.2 _ hcl).2, (W.2 _ hcl).1⟩
        have vo : vN (nI o) = o := vN_nI (by omega)
        rw [hoe, vo]
        have s8 : σ2 8 c = nI o := by rw [q2 8 (by decide)]; exact hoe
        have s10 : σ2 10 = s 10 := q2 10 (by decide)
        refine ⟨mSigW (mSigB σ2 o (if s 10 c = 0 then 1 else s 10 c)) o, ?_, (q2.sigB _ _).sigW _, (mSigW_0 _ _ _).trans h00⟩
        simp only [D_M_signal_0, t_M_reaches, xif_ad ha, xisO_m ok, e1, xclI_some, Option.bind_some, e2, ic_2, ic_1, e3, mr_of ok, mr_cap ok, h39, ma_of ok hcl, s8, mr_bits ok, ma_bits ok hol, mr_badge ok, ma_badge ok hcl, s10, t_sig72 ok hol]
        rw [if_neg (by decide), if_neg (by decide), if_pos (by decide)]
        by_cases g3 : s 10 c = 0
        · rw [if_neg (fun w => w g3), if_pos g3, ((q2.sigB o 1).sigW o).n5]
        · rw [if_pos g3, if_neg g3, ((q2.sigB o (s 10 c)).sigW o).n5]
      · rw [if_pos g2]
        rw [xb_not (fun w => g2 w.2)] at e3
        refine ⟨σ3, ?_, q3, d2 g1 g2⟩
        simp only [D_M_signal_0, t_M_reaches, xif_ad ha, xisO_m ok, e1, xclI_some, Option.bind_some, e2, ic_2, ic_1, e3]
        rw [if_neg (by decide), if_neg (by decide), if_neg (fun w => w trivial), t_sig28]
    · rw [if_pos g1]
      rw [xb_not (fun w => g1 w.1)] at e3
      refine ⟨σ3, ?_, q3, d1 g1⟩
      simp only [D_M_signal_0, t_M_reaches, xif_ad ha, xisO_m ok, e1, xclI_some, Option.bind_some, e2, ic_2, ic_1, e3]
      rw [if_neg (by decide), if_neg (by decide), if_neg (fun w => w trivial), t_sig28]
end MO
