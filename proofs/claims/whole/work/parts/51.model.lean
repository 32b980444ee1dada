/-! The reference: call. -/
section MW
variable {z : xzs} {h : xH} {m : Nat} {s : mS}
theorem mEq.names {s σ : mS} (e : mEq s σ) (n t : Nat) (w b : Int32) : (mNames σ n t w b).1 = (mNames s n t w b).1 ∧ mEq (mNames s n t w b).2 (mNames σ n t w b).2 ∧ (mNames σ n t w b).2 0 0 = σ 0 0 := by
  unfold mNames
  rw [e.place, e 14 (by decide)]
  split
  · exact ⟨rfl, e, rfl⟩
  · split
    · exact ⟨rfl, e, rfl⟩
    · split
      · exact ⟨rfl, e, rfl⟩
      · split
        · exact ⟨rfl, e.putC _ _ _ _ _ _, rfl⟩
        · exact ⟨rfl, e, rfl⟩
theorem mTkn_congr {s σ : mS} (e : σ 34 = s 34) (d : Nat) (x : Int32) : ∀ k, mTkn σ d k x = mTkn s d k x
  | 0 => rfl
  | k + 1 => by unfold mTkn; rw [e, mTkn_congr e d x k]
theorem mFreeN_congr {s σ : mS} (e : σ 34 = s 34) : ∀ k d, mFreeN σ k d = mFreeN s k d
  | 0, _ => rfl
  | k + 1, d => by unfold mFreeN; rw [mTkn_congr e, mFreeN_congr e k (d + 1)]
theorem mEq.free {s σ : mS} (e : mEq s σ) : mFree σ = mFree s := mFreeN_congr (e 34 (by decide)) 6 1
theorem mEq.zero {s σ : mS} (e : mEq s σ) (d : Nat) : ∀ k, mEq (mZero d k s) (mZero d k σ)
  | 0 => e
  | k + 1 => (mEq.zero e d k).sS _ _ _
theorem mEq.wrC {s σ : mS} (e : mEq s σ) (f n o : Nat) : mEq (mWrC s f n o) (mWrC σ f n o) := by
  unfold mWrC
  rw [e 36 (by decide), e 37 (by decide), e 34 (by decide)]
  exact ((e.sS _ _ _).sS _ _ _).sS _ _ _
theorem mEq.filesG {s σ : mS} (e : mEq s σ) (o n f : Nat) : (mFilesG σ o n f).1 = (mFilesG s o n f).1 ∧ mEq (mFilesG s o n f).2 (mFilesG σ o n f).2 ∧ (mFilesG σ o n f).2 0 0 = σ 0 0 := by
  unfold mFilesG
  rw [e.free, e 34 (by decide), e 35 (by decide), e 36 (by decide), e 37 (by decide)]
  split
  · exact ⟨rfl, e.sS _ _ _, rfl⟩
  · split
    · split
      · exact ⟨rfl, e, rfl⟩
      · exact ⟨rfl, e.sS _ _ _, rfl⟩
    · split
      · exact ⟨rfl, e.wrC _ _ _, rfl⟩
      · split
        · exact ⟨rfl, e.sS _ _ _, rfl⟩
        · exact ⟨rfl, (((e.sS _ _ _).sS _ _ _).zero _ _).wrC _ _ _, rfl⟩
theorem mEq.files {s σ : mS} (e : mEq s σ) (w : Int32) (b : Nat) : (mFiles σ w b).1 = (mFiles s w b).1 ∧ mEq (mFiles s w b).2 (mFiles σ w b).2 ∧ (mFiles σ w b).2 0 0 = σ 0 0 := by
  unfold mFiles
  by_cases g : w < 0 ∨ ¬ (2 ≤ vN w / 100 ∧ vN w / 100 ≤ 13) ∨ ¬ vN w % 100 ≤ (if vN w / 100 = 13 then 3 else 31)
  · rw [if_pos g, if_pos g]
    exact ⟨rfl, e, rfl⟩
  · rw [if_neg g, if_neg g]
    exact e.filesG _ _ _
/-- a call is numbered -/
def mNum (s : mS) (t : Nat) : mS := sS (sS s 31 0 (s 31 0 + 1)) 28 t (s 31 0 + 1)
theorem mEq.num {s σ : mS} (e : mEq s σ) (t : Nat) : mEq (mNum s t) (mNum σ t) := by
  unfold mNum
  rw [e 31 (by decide)]
  exact (e.sS _ _ _).sS _ _ _
def mCallE (s : mS) (n t : Nat) (w b o : Int32) : mR := if mWaiting s o (nI 4) (nI 4) = 0 then (0, 1, mWaits (mNote s t w b 0) t (nI 2) o) else (0, 0, mAsks (mReady (mDel s n (mWaiting s o (nI 4) (nI 4)) w b 0) (mWaiting s o (nI 4) (nI 4))) t (mWaiting s o (nI 4) (nI 4)))
def mCallG (s : mS) (n t a : Nat) (w : Int32) : mR := if mCapa s t a = 0 then (nI 2, 0, s) else if ¬ s 1 (vN (s 8 (vN (mCapa s t a)))) = 1 then (1, 0, s) else if ¬ s 9 (vN (mCapa s t a)) &&& nI 2 = nI 2 then (nI 3, 0, s)
  else if 1 < s 8 (vN (mCapa s t a)) then mCallE (mNum s t) n t w (s 10 (vN (mCapa s t a))) (s 8 (vN (mCapa s t a)))
  else if ¬ s 8 (vN (mCapa s t a)) = 0 then (0, nI 2, mComes (mFiles s w (vN (s 10 (vN (mCapa s t a))))).2 t (mFiles s w (vN (s 10 (vN (mCapa s t a))))).1 0 (-1))
  else (0, nI 2, mComes (mNames s n t w (s 10 (vN (mCapa s t a)))).2 t (mNames s n t w (s 10 (vN (mCapa s t a)))).1 0 (-1))
theorem t_call28 (H : xH) : B_M_call_28 z H = some (.inl (some (.int 0)), H) := by
  refine E_M_call_28 z H _ ?_
  unfold D_M_call_28
  rw [ic_0]
theorem t_call82 (ok : mOk h m) {t : Nat} (ht : t < 4) (x : Int32) : B_M_call_82 z x (nI t) (some m) (mPut h m s) = some (.inl (some (.int (nI 2))), mPut h m (mComes s t x 0 (-1))) := by
  refine E_M_call_82 z _ _ _ _ _ ?_
  simp only [D_M_call_82, Option.bind_some, xisO_m ok, ic_0, ic_m1, ic_2, t_M_comes ok ht, xclV_some]
theorem t_M_call_bad (ok : mOk h m) {p1 p2 : Int32} (hr : mNow s = 0 ∨ ¬ rAd p1) : mDone z h m (f_M_call z [.ref m, .int p1, .int p2] (mPut h m s)) (mRef s) := by
  obtain ⟨σ, e1, q1, c1⟩ := w_one (z := z) ok hr
  refine ⟨σ, E_M_call z m _ _ _ _ ?_, q1, c1⟩
  simp only [D_M_call_0, t_M_reaches, xclI_some, xisO_m ok, e1, Option.bind_some]
  rw [if_pos trivial, t_call28]
  rfl
theorem t_callE {o : Option xR} {σ : mS} {n t : Nat} {w b x : Int32} (e : mEq s σ) (D : mDone z h m o (mCallE σ n t w b x)) : mDone z h m o (mCallE s n t w b x) := by
  unfold mCallE at D ⊢
  rw [e.wait] at D
  by_cases g : mWaiting s x (nI 4) (nI 4) = 0
  · rw [if_pos g] at D ⊢
    exact D.eq2 ((e.note _ _ _ _).waits _ _ _)
  · rw [if_neg g] at D ⊢
    exact D.eq2 (((e.del _ _ _ _ _).ready _).asks _ _)
theorem t_M_call (ok : mOk h m) (W : mWF s) (S : mWS s) (B : mWB s) {n a t : Nat} {w : Int32} (hm : s 13 0 = nI n) (hn : n + 1 < 1200) (ht : mNow s = t) (ht0 : t ≠ 0) (ha : a < 72) (hb : s 8 (vN (mCapa s t a)) = 1 → isN (s 10 (vN (mCapa s t a))) 4) : mDone z h m (f_M_call z [.ref m, .int (nI a), .int w] (mPut h m s)) (mCallG s n t a w) := by
  have ht4 : t < 4 := by rw [← ht]; exact mNow_lt s
  obtain ⟨σ1, σ2, e1, e2, q2, c2, K2⟩ := w_a (z := z) ok W ht ht0 ha
  refine f_done (E_M_call z m (nI a) w (mPut h m s)) ?_
  unfold mCallG
  by_cases hc : mCapa s t a = 0
  · rw [if_pos hc]
    refine ⟨σ2, ?_, q2, c2 hc⟩
    rw [xb_not (fun w => w hc)] at e2
    simp only [D_M_call_0, t_M_reaches, xif_ad ha, xisO_m ok, e1, xclI_some, Option.bind_some, e2]
    rw [if_neg (by decide), if_pos trivial, t_call28]
  · rw [if_neg hc]
    rw [xb_same hc] at e2
    obtain ⟨K2, c, hcl, hce, h39⟩ := K2 hc
    have vc : vN (nI c) = c := vN_nI (by omega)
    rw [hce, vc] at hb ⊢
    obtain ⟨σ3, e3, q3, d1, d2, d3⟩ := w_is (z := z) ok W hcl K2 h39 1 (nI 2)
    by_cases g1 : s 1 (vN (s 8 c)) = 1
    · rw [if_neg (fun w => w g1)]
      by_cases g2 : s 9 c &&& nI 2 = nI 2
      · rw [if_neg (fun w => w g2)]
        rw [xb_same ⟨g1, g2⟩, d3 g1 g2] at e3
        obtain ⟨q2', h38, h00⟩ := K2
        obtain ⟨o, hol, hoe⟩ : ∃ o, o < 50 ∧ s 8 c = nI o := ⟨_, (W.2 _ hcl).2, (W.2 _ hcl).1⟩
        have vo : vN (nI o) = o := vN_nI (by omega)
        rw [hoe] at hb ⊢
        have s8 : σ2 8 c = nI o := by rw [q2 8 (by decide)]; exact hoe
        have s10 : σ2 10 = s 10 := q2 10 (by decide)
        have hm2 : σ2 13 0 = nI n := by rw [q2 13 (by decide)]; exact hm
        simp only [D_M_call_0, t_M_reaches, xif_ad ha, xisO_m ok, e1, xclI_some, Option.bind_some, e2, ic_2, ic_1, e3, mr_of ok, mr_cap ok, h39, ma_of ok hcl, s8, mr_badge ok, ma_badge ok hcl, s10, mr_at ok, h38, mr_clock ok, mw_clock ok, mr_callNumber ok]
        rw [if_neg (by decide), if_neg (by decide), if_pos (by decide)]
        by_cases g3 : 1 < nI o
        · rw [if_pos g3, if_pos g3]
          refine t_callE (q2.num t) ?_
          have hw := mWaiting_lt (mNum σ2 t) (nI o) (nI 4) (nI 4)
          have x31 : sS σ2 31 0 (σ2 31 0 + 1) 31 0 = σ2 31 0 + 1 := sS_same _ _ _ _
          have x38 : sS σ2 31 0 (σ2 31 0 + 1) 38 0 = nI t := h38
          have xN : sS (sS σ2 31 0 (σ2 31 0 + 1)) 28 t (σ2 31 0 + 1) = mNum σ2 t := rfl
          have n38 : mNum σ2 t 38 0 = nI t := h38
          have n39 : mNum σ2 t 39 0 = nI c := h39
          have n10 : mNum σ2 t 10 c = s 10 c := by rw [← s10]; rfl
          have n13 : mNum σ2 t 13 0 = nI n := hm2
          have no38 : ∀ x y z, mNote (mNum σ2 t) t x y z 38 0 = nI t := fun _ _ _ => h38
          have d38 : ∀ u x y g, mReady (mDel (mNum σ2 t) n u x y g) u 38 0 = nI t := fun u x y g => by
            unfold mReady
            simp only [sS_app, Nat.reduceEqDiff, false_and, ↓reduceIte]
            rw [mDel_sc _ _ _ _ _ _ (by decide)]
            exact n38
          have nS : mWS (mNum σ2 t) := q2.ws S
          have dl := fun x y => t_M_deliver (z := z) (s := mNum σ2 t) (g := 0) ok n13 hn hw (by decide) (nS _ hw).1 x y
          simp only [x31, x38, mw_callNumber ok ht4, Option.bind_some, xN, xisO_m ok, ic_4, t_M_waiting ok, xclI_some, mr_badge ok, mr_cap ok, n39, ma_badge ok hcl, n10, ic_0n, t_M_noteMessage ok ht4 n38, xclV_some, mr_at ok, no38, t_M_waits ok ht4, dl, t_M_ready ok hw, d38, t_M_asks ok ht4 hw]
          unfold mCallE
          by_cases g4 : mWaiting (mNum σ2 t) (nI o) (nI 4) (nI 4) = 0
          · rw [if_pos (by rw [g4]; decide), if_pos g4]
            refine ⟨_, rfl, mEq.rf _, ?_⟩
            show mWaits _ _ _ _ 0 0 = 0
            unfold mWaits mNote mNum
            simp only [sS_app, Nat.reduceEqDiff, false_and, ↓reduceIte]
            exact h00
          · rw [if_neg (nI_nle (by omega) (by omega)), if_neg g4]
            refine ⟨_, rfl, mEq.rf _, ?_⟩
            show mAsks _ _ _ 0 0 = 0
            unfold mAsks mReady
            simp only [sS_app, Nat.reduceEqDiff, false_and, ↓reduceIte]
            rw [mDel_sc _ _ _ _ _ _ (by decide)]
            exact h00
        · rw [if_neg g3, if_neg g3]
          have o01 : o = 0 ∨ o = 1 := by
            rcases Nat.lt_or_ge 1 o with q | q
            · exact absurd (nI_lt (a := 1) q (by omega)) g3
            · omega
          rcases o01 with rfl | rfl
          · rw [if_neg (fun w => w rfl), if_neg (fun w => w rfl)]
            obtain ⟨r1, r2, r3⟩ := q2.names n t w (s 10 c)
            rw [t_M_names ok (q2.wf W) hm2 hn ht4 h38, xclI_some, t_call82 ok ht4, r1]
            refine ⟨_, rfl, r2.comes _ _ _ _, ?_⟩
            show mComes _ _ _ _ _ 0 0 = 0
            unfold mComes
            simp only [sS_app, Nat.reduceEqDiff, false_and, ↓reduceIte]
            exact r3.trans h00
          · rw [if_pos (by decide), if_pos (by decide)]
            obtain ⟨b, hb4, hbe⟩ : ∃ b, b < 4 ∧ s 10 c = nI b := ⟨_, (hb rfl).2, (hb rfl).1⟩
            have vb : vN (nI b) = b := vN_nI (by omega)
            obtain ⟨r1, r2, r3⟩ := q2.files w b
            have B2 : mWB σ2 := fun f hf => by rw [q2 34 (by decide)]; exact B f hf
            rw [hbe, vb, t_M_files ok B2 hb4, xclI_some, t_call82 ok ht4, r1]
            refine ⟨_, rfl, r2.comes _ _ _ _, ?_⟩
            show mComes _ _ _ _ _ 0 0 = 0
            unfold mComes
            simp only [sS_app, Nat.reduceEqDiff, false_and, ↓reduceIte]
            exact r3.trans h00
      · rw [if_pos g2]
        rw [xb_not (fun w => g2 w.2)] at e3
        refine ⟨σ3, ?_, q3, d2 g1 g2⟩
        simp only [D_M_call_0, t_M_reaches, xif_ad ha, xisO_m ok, e1, xclI_some, Option.bind_some, e2, ic_2, ic_1, e3]
        rw [if_neg (by decide), if_neg (by decide), if_neg (fun w => w trivial), t_call28]
    · rw [if_pos g1]
      rw [xb_not (fun w => g1 w.1)] at e3
      refine ⟨σ3, ?_, q3, d1 g1⟩
      simp only [D_M_call_0, t_M_reaches, xif_ad ha, xisO_m ok, e1, xclI_some, Option.bind_some, e2, ic_2, ic_1, e3]
      rw [if_neg (by decide), if_neg (by decide), if_neg (fun w => w trivial), t_call28]
end MW
