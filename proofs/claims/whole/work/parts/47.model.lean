/-! The reference: send. -/
section MR
variable {z : xzs} {h : xH} {m : Nat} {s : mS}
theorem bc_6 : (Int8.ofInt 6).toInt32 = nI 6 := by decide
/-- what the numbers of the threads are -/
def mWS (s : mS) : Prop := ∀ u, u < 4 → (0 ≤ s 27 u → isN (s 41 u) 400) ∧ isN (s 26 u) 1200 ∧ isN (s 29 u) 4
theorem mEq.ws {s σ : mS} (e : mEq s σ) (S : mWS s) : mWS σ := fun u hu => by
  rw [e 27 (by decide), e 41 (by decide), e 26 (by decide), e 29 (by decide)]
  exact S u hu
theorem mEq.del {s σ : mS} (e : mEq s σ) (n to : Nat) (w b : Int32) (g : Nat) : mEq (mDel s n to w b g) (mDel σ n to w b g) := by
  have hd : mDelOk σ to g = mDelOk s to g := by
    unfold mDelOk
    rw [e 12 (by decide), e 27 (by decide), e 6 (by decide), e 41 (by decide), e 14 (by decide)]
  unfold mDel
  by_cases hs : mDelOk s to g
  · rw [if_pos hs, if_pos (hd ▸ hs), e 27 (by decide), e 41 (by decide), e 8 (by decide), e 9 (by decide), e 10 (by decide)]
    exact (e.putC _ _ _ _ _ _).comes _ _ _ _
  · rw [if_neg hs, if_neg (hd ▸ hs)]
    exact e.comes _ _ _ _
theorem mEq.note {s σ : mS} (e : mEq s σ) (t : Nat) (w b g : Int32) : mEq (mNote s t w b g) (mNote σ t w b g) := ((e.sS _ _ _).sS _ _ _).sS _ _ _
theorem mEq.asks {s σ : mS} (e : mEq s σ) (t v : Nat) : mEq (mAsks s t v) (mAsks σ t v) := by
  unfold mAsks
  rw [e 28 (by decide)]
  exact ((e.sS _ _ _).sS _ _ _).sS _ _ _
theorem mDel_sc (s : mS) (n to : Nat) (w b : Int32) (g : Nat) {f : Nat} (hf : f ≠ 8 ∧ f ≠ 9 ∧ f ≠ 10 ∧ f ≠ 11 ∧ f ≠ 12 ∧ f ≠ 13 ∧ f ≠ 14 ∧ f ≠ 16 ∧ f ≠ 17 ∧ f ≠ 18 ∧ f ≠ 19) (j : Nat) : mDel s n to w b g f j = s f j := by
  obtain ⟨h8, h9, h10, h11, h12, h13, h14, h16, h17, h18, h19⟩ := hf
  unfold mDel
  split
  · unfold mComes mPutC
    simp only [sS_app, h8, h9, h10, h11, h12, h13, h14, h16, h17, h18, h19, false_and, ↓reduceIte]
  · unfold mComes
    simp only [sS_app, h16, h17, h18, h19, false_and, ↓reduceIte]
theorem t_send115 (H : xH) : B_M_send_115 z H = some (.inl (some (.int 0)), H) := by
  refine E_M_send_115 z H _ ?_
  unfold D_M_send_115
  rw [ic_0]
theorem t_send37 (H : xH) : B_M_send_37 z H = some (.inl (some (.int 0)), H) := by
  refine E_M_send_37 z H _ ?_
  unfold D_M_send_37
  rw [ic_0]
/-- send by a capability c, with g, for the rights r -/
def mSendC (s : mS) (n t c : Nat) (w : Int32) (g : Nat) (r : Int32) : mR := if ¬ s 1 (vN (s 8 c)) = 1 then (1, 0, s) else if ¬ s 9 c &&& r = r then (nI 3, 0, s) else if s 8 c ≤ 1 then (nI 4, 0, s)
  else if mWaiting s (s 8 c) (nI 4) (nI 4) = 0 then (0, 1, mWaits (mNote s t w (s 10 c) (nI g)) t 1 (s 8 c)) else (0, 0, mReady (mDel s n (mWaiting s (s 8 c) (nI 4) (nI 4)) w (s 10 c) g) (mWaiting s (s 8 c) (nI 4) (nI 4)))
theorem t_send109r (ok : mOk h m) {w c g : Int32} : mDone z h m (B_M_send_109 z m w c g 0 (some m) (mPut h m s)) (nI 4, 0, s) := by
  have so := t_M_so (z := z) (s := s) ok 0 (Or.inl rfl)
  rw [if_pos rfl] at so
  refine ⟨sS s 0 0 (nI 4), E_M_send_109 z m _ _ _ _ _ _ _ ?_, (mEq.rf s).sc (Or.inl rfl) 0 _, sS_same _ _ _ _⟩
  simp only [D_M_send_109, xisO_m ok, so, xclI_some, Option.bind_some]
  rw [if_neg (fun w => w trivial), t_send115]
theorem t_send109 (ok : mOk h m) (S : mWS s) {n t c g : Nat} {w : Int32} (hm : s 13 0 = nI n) (hn : n + 1 < 1200) (ht : t < 4) (hc : c < 1200) (hg : g < 1200) (h38 : s 38 0 = nI t) (h00 : s 0 0 = 0) : mDone z h m (B_M_send_109 z m w (nI c) (nI g) 1 (some m) (mPut h m s)) (if mWaiting s (s 8 c) (nI 4) (nI 4) = 0 then (0, 1, mWaits (mNote s t w (s 10 c) (nI g)) t 1 (s 8 c)) else (0, 0, mReady (mDel s n (mWaiting s (s 8 c) (nI 4) (nI 4)) w (s 10 c) g) (mWaiting s (s 8 c) (nI 4) (nI 4)))) := by
  have so := t_M_so (z := z) (s := s) ok 1 (Or.inr rfl)
  rw [if_neg (by decide)] at so
  have hw := mWaiting_lt s (s 8 c) (nI 4) (nI 4)
  refine f_done (E_M_send_109 z m _ _ _ _ _ _) ?_
  have e38 : mNote s t w (s 10 c) (nI g) 38 0 = nI t := h38
  have e8 : mNote s t w (s 10 c) (nI g) 8 c = s 8 c := rfl
  simp only [D_M_send_109, xisO_m ok, so, xclI_some, Option.bind_some, mr_of ok, ma_of ok hc, ic_4, t_M_waiting ok, mr_badge ok, ma_badge ok hc, t_M_noteMessage ok ht h38, xclV_some, mr_at ok, e38, e8, ic_1, t_M_waits ok ht, ic_0, t_M_deliver ok hm hn hw hg (S _ hw).1, t_M_ready ok hw]
  rw [if_pos (by decide)]
  by_cases g1 : mWaiting s (s 8 c) (nI 4) (nI 4) = 0
  · rw [if_pos (by rw [g1]; decide), if_pos g1]
    refine ⟨_, rfl, mEq.rf _, ?_⟩
    show mWaits (mNote s t w (s 10 c) (nI g)) t 1 (s 8 c) 0 0 = 0
    unfold mWaits mNote
    simp only [sS_app, Nat.reduceEqDiff, false_and, ↓reduceIte]
    exact h00
  · rw [if_neg (nI_nle (by omega) (by omega)), if_neg g1]
    refine ⟨_, rfl, mEq.rf _, ?_⟩
    show mReady _ _ 0 0 = 0
    unfold mReady
    simp only [sS_app, Nat.reduceEqDiff, false_and, ↓reduceIte]
    rw [mDel_sc _ _ _ _ _ _ (by decide)]
    exact h00
theorem t_send86 (ok : mOk h m) (W : mWF s) (S : mWS s) {n t c g : Nat} {w r : Int32} (hm : s 13 0 = nI n) (hn : n + 1 < 1200) (ht : t < 4) (hc : c < 1200) (hg : g < 1200) {σ : mS} (K : mWk s t σ) (h39 : σ 39 0 = nI c) : mDone z h m (B_M_send_86 z m w (nI c) (nI g) r 1 (some m) (mPut h m σ)) (mSendC s n t c w g r) := by
  obtain ⟨σ3, e3, q3, d1, d2, d3⟩ := w_is (z := z) ok W hc K h39 1 r
  refine f_done (E_M_send_86 z m _ _ _ _ _ _ _) ?_
  unfold mSendC
  simp only [D_M_send_86, xisO_m ok, e3, xclI_some, Option.bind_some, mr_of ok, ma_of ok hc, ic_1, ic_0]
  by_cases g1 : s 1 (vN (s 8 c)) = 1
  · by_cases g2 : s 9 c &&& r = r
    · rw [xb_same (p := s 1 (vN (s 8 c)) = 1 ∧ s 9 c &&& r = r) ⟨g1, g2⟩, if_neg (show ¬ (1 : Int32) = 0 by decide), if_neg (show ¬ ¬ s 1 (vN (s 8 c)) = 1 from fun w => w g1), if_neg (show ¬ ¬ s 9 c &&& r = r from fun w => w g2)]
      rw [d3 g1 g2]
      obtain ⟨q, h38, h00⟩ := K
      have s8 : σ 8 = s 8 := q 8 (by decide)
      rw [s8]
      by_cases g3 : s 8 c ≤ 1
      · rw [if_pos g3, if_pos g3]
        exact (t_send109r ok).eq2 q
      · rw [if_neg g3, if_neg g3]
        have hm3 : σ 13 0 = nI n := by rw [q 13 (by decide)]; exact hm
        have D := t_send109 (z := z) (w := w) ok (q.ws S) hm3 hn ht hc hg h38 h00
        rw [q.wait, s8, q 10 (by decide)] at D
        by_cases g4 : mWaiting s (s 8 c) (nI 4) (nI 4) = 0
        · rw [if_pos g4] at D ⊢
          exact D.eq2 ((q.note _ _ _ _).waits _ _ _)
        · rw [if_neg g4] at D ⊢
          exact D.eq2 ((q.del _ _ _ _ _).ready _)
    · rw [xb_not (p := s 1 (vN (s 8 c)) = 1 ∧ s 9 c &&& r = r) (fun w => g2 w.2), if_pos rfl, if_neg (fun w => w g1), if_pos g2, t_send115]
      exact ⟨σ3, rfl, q3, d2 g1 g2⟩
  · rw [xb_not (p := s 1 (vN (s 8 c)) = 1 ∧ s 9 c &&& r = r) (fun w => g1 w.1), if_pos rfl, if_pos g1, t_send115]
    exact ⟨σ3, rfl, q3, d1 g1⟩
theorem mWk.cap {t : Nat} {σ : mS} (K : mWk s t σ) (v : Int32) : mWk s t (sS σ 39 0 v) := ⟨K.1.sc (Or.inr (Or.inr (Or.inr (Or.inr (Or.inl rfl))))) 0 _, K.2.1, K.2.2⟩
/-- send without a capability along -/
def mSend0 (s : mS) (n t a : Nat) (w : Int32) : mR := if mCapa s t a = 0 then (nI 2, 0, s) else mSendC s n t (vN (mCapa s t a)) w 0 (nI 2)
/-- send with one -/
def mSend1 (s : mS) (n t a b : Nat) (w : Int32) : mR := if mCapa s t a = 0 ∨ mCapa s t b = 0 then (nI 2, 0, s) else mSendC s n t (vN (mCapa s t a)) w (vN (mCapa s t b)) (nI 6)
theorem t_send23a (ok : mOk h m) (W : mWF s) (S : mWS s) {n t a : Nat} {w p : Int32} (hm : s 13 0 = nI n) (hn : n + 1 < 1200) (ht : mNow s = t) (ht0 : t ≠ 0) (ha : a < 72) (hp : p < 0) : mDone z h m (B_M_send_23 z m (nI a) w p 1 (some m) (mPut h m s)) (mSend0 s n t a w) := by
  have ht4 : t < 4 := by rw [← ht]; exact mNow_lt s
  obtain ⟨σ1, σ2, e1, e2, q2, c2, K2⟩ := w_a (z := z) ok W ht ht0 ha
  refine f_done (E_M_send_23 z m _ _ _ _ _ _) ?_
  unfold mSend0
  simp only [D_M_send_23, xisO_m ok, e1, xclI_some, Option.bind_some, e2, mr_cap ok, ic_0]
  rw [if_neg (by decide)]
  by_cases hc : mCapa s t a = 0
  · rw [if_pos hc, xb_not (p := mCapa s t a ≠ 0) (fun w => w hc), if_neg (fun w => w rfl), t_send37]
    exact ⟨σ2, rfl, q2, c2 hc⟩
  · rw [if_neg hc, xb_same (p := mCapa s t a ≠ 0) hc, if_pos (by decide), if_pos hp]
    obtain ⟨K2, c, hcl, hce, h39⟩ := K2 hc
    have vc : vN (nI c) = c := vN_nI (by omega)
    rw [h39, hce, vc]
    refine f_done (E_M_send_68 z m _ _ _ _ _) ?_
    simp only [D_M_send_68, mw_cap ok, Option.bind_some, ic_1, ic_2]
    rw [if_pos hp]
    exact t_send86 ok W S hm hn ht4 hcl (by decide) (K2.cap _) (sS_same _ _ _ _)
theorem t_send23b (ok : mOk h m) (W : mWF s) (S : mWS s) {n t a b : Nat} {w : Int32} (hm : s 13 0 = nI n) (hn : n + 1 < 1200) (ht : mNow s = t) (ht0 : t ≠ 0) (ha : a < 72) (hb : b < 72) : mDone z h m (B_M_send_23 z m (nI a) w (nI b) 1 (some m) (mPut h m s)) (mSend1 s n t a b w) := by
  have ht4 : t < 4 := by rw [← ht]; exact mNow_lt s
  obtain ⟨σ1, σ2, e1, e2, q2, c2, K2⟩ := w_a (z := z) ok W ht ht0 ha
  refine f_done (E_M_send_23 z m _ _ _ _ _ _) ?_
  unfold mSend1
  simp only [D_M_send_23, xisO_m ok, e1, xclI_some, Option.bind_some, e2, mr_cap ok, ic_0]
  rw [if_neg (by decide)]
  by_cases hc : mCapa s t a = 0
  · rw [if_pos (Or.inl hc), xb_not (p := mCapa s t a ≠ 0) (fun w => w hc), if_neg (fun w => w rfl), t_send37]
    exact ⟨σ2, rfl, q2, c2 hc⟩
  · rw [xb_same (p := mCapa s t a ≠ 0) hc, if_pos (by decide), if_neg (nI_pos (by omega))]
    obtain ⟨K2, c, hcl, hce, h39⟩ := K2 hc
    obtain ⟨σ3, e3, q3, c3, K3, -⟩ := w_has (z := z) ok W ht4 hb K2
    have vc : vN (nI c) = c := vN_nI (by omega)
    simp only [e3, xclI_some]
    by_cases hd : mCapa s t b = 0
    · rw [xb_not (p := mCapa s t b ≠ 0) (fun w => w hd), if_neg (fun w => w rfl), if_pos (Or.inr hd)]
      exact ⟨σ3, rfl, q3, c3 hd⟩
    · rw [xb_same (p := mCapa s t b ≠ 0) hd, if_pos (show ¬ (1 : Int32) = 0 by decide), if_neg (show ¬ (mCapa s t a = 0 ∨ mCapa s t b = 0) from fun w => w.elim hc hd)]
      obtain ⟨K3, h39'⟩ := K3 hd
      obtain ⟨g, hgl, hge⟩ : ∃ g, g < 1200 ∧ mCapa s t b = nI g := ⟨_, (mCapa_isN W ht4 hb).2, (mCapa_isN W ht4 hb).1⟩
      have vg : vN (nI g) = g := vN_nI (by omega)
      rw [mr_cap ok, Option.bind_some, h39, h39', hce, hge, vc, vg]
      refine f_done (E_M_send_68 z m _ _ _ _ _) ?_
      simp only [D_M_send_68, mw_cap ok, Option.bind_some, ic_1, bc_6]
      rw [if_neg (nI_pos (by omega))]
      exact t_send86 ok W S hm hn ht4 hcl hgl (K3.cap _) (sS_same _ _ _ _)
theorem t_send23r (ok : mOk h m) {g p1 p2 p3 : Int32} (hg : g = 0 ∨ g = 1) (hr : mNow s = 0 ∨ g = 0) : mDone z h m (B_M_send_23 z m p1 p2 p3 g (some m) (mPut h m s)) (mRef s) := by
  obtain ⟨σ, e1, q1, c1⟩ := w_refuse (z := z) (s := s) ok hg hr
  refine ⟨σ, E_M_send_23 z m _ _ _ _ _ _ _ ?_, q1, c1⟩
  simp only [D_M_send_23, xisO_m ok, e1, xclI_some, Option.bind_some]
  rw [if_pos trivial, t_send37]
  rfl
theorem t_send22 (ok : mOk h m) {p1 p2 p3 : Int32} : mDone z h m (B_M_send_22 z m p1 p2 p3 (some m) (mPut h m s)) (mRef s) := by
  refine f_done (E_M_send_22 z m _ _ _ _ _) ?_
  unfold D_M_send_22
  rw [ic_0]
  exact t_send23r ok (Or.inl rfl) (Or.inr rfl)
theorem t_M_send_bad (ok : mOk h m) {p1 p2 p3 : Int32} (hr : mNow s = 0 ∨ ¬ (rAd p1 ∧ rIn p3 (-1) (nI 71))) : mDone z h m (f_M_send z [.ref m, .int p1, .int p2, .int p3] (mPut h m s)) (mRef s) := by
  refine f_done (E_M_send z m p1 p2 p3 (mPut h m s)) ?_
  simp only [D_M_send_0, t_M_reaches, t_M_within, xclI_some, ic_m1, bc_71, ic_1]
  by_cases h1 : rAd p1
  · rw [if_neg (fun w => ((xif_in _ _ _).mp w) h1)]
    by_cases h2 : rIn p3 (-1) (nI 71)
    · rw [if_neg (fun w => ((xif_in _ _ _).mp w) h2)]
      exact t_send23r ok (Or.inr rfl) (Or.inl (hr.resolve_right (fun w => w ⟨h1, h2⟩)))
    · rw [if_pos ((xif_in _ _ _).mpr h2)]
      exact t_send22 ok
  · rw [if_pos ((xif_in _ _ _).mpr h1)]
    exact t_send22 ok
theorem rIn_m1 : rIn (-1) (-1) (nI 71) := by unfold rIn; decide
theorem rIn_nI {b : Nat} (hb : b < 72) : rIn (nI b) (-1) (nI 71) := by
  rintro (w | w)
  · exact nI_pos (n := b) (by omega) (Int32.lt_trans w (by decide))
  · exact nI_nlt (by omega) (by decide) w
theorem t_M_send0 (ok : mOk h m) (W : mWF s) (S : mWS s) {n a : Nat} {w : Int32} (hm : s 13 0 = nI n) (hn : n + 1 < 1200) (ht0 : mNow s ≠ 0) (ha : a < 72) : mDone z h m (f_M_send z [.ref m, .int (nI a), .int w, .int (-1)] (mPut h m s)) (mSend0 s n (mNow s) a w) := by
  refine f_done (E_M_send z m (nI a) w (-1) (mPut h m s)) ?_
  simp only [D_M_send_0, t_M_reaches, t_M_within, xclI_some, ic_m1, bc_71, ic_1]
  rw [if_neg (fun w => ((xif_in _ _ _).mp w) (rAd_nI ha)), if_neg (fun w => ((xif_in _ _ _).mp w) rIn_m1)]
  exact t_send23a ok W S hm hn rfl ht0 ha (by decide)
theorem t_M_send1 (ok : mOk h m) (W : mWF s) (S : mWS s) {n a b : Nat} {w : Int32} (hm : s 13 0 = nI n) (hn : n + 1 < 1200) (ht0 : mNow s ≠ 0) (ha : a < 72) (hb : b < 72) : mDone z h m (f_M_send z [.ref m, .int (nI a), .int w, .int (nI b)] (mPut h m s)) (mSend1 s n (mNow s) a b w) := by
  refine f_done (E_M_send z m (nI a) w (nI b) (mPut h m s)) ?_
  simp only [D_M_send_0, t_M_reaches, t_M_within, xclI_some, ic_m1, bc_71, ic_1]
  rw [if_neg (fun w => ((xif_in _ _ _).mp w) (rAd_nI ha)), if_neg (fun w => ((xif_in _ _ _).mp w) (rIn_nI hb))]
  exact t_send23b ok W S hm hn rfl ht0 ha hb
end MR
