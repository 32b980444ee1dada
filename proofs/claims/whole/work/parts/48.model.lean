/-! The reference: receive. -/
section MT
variable {z : xzs} {h : xH} {m : Nat} {s : mS}
theorem t_rec83 (H : xH) : B_M_receive_83 z H = some (.inl (some (.int 0)), H) := by
  refine E_M_receive_83 z H _ ?_
  unfold D_M_receive_83
  rw [ic_0]
theorem t_rec216 (H : xH) : B_M_receive_216 z H = some (.inl (some (.int 0)), H) := by
  refine E_M_receive_216 z H _ ?_
  unfold D_M_receive_216
  rw [ic_0]
/-- what a receiver said: the address, the SLOT -/
def mSaid (s : mS) (t : Nat) (i sl : Int32) : mS := sS (sS s 27 t i) 41 t sl
/-- receive takes: of the thread f, that waits -/
def mTake (s : mS) (n t f : Nat) : mS := if s 15 f = nI 2 then mAsks (mDel s n t (s 24 f) (s 25 f) (vN (s 26 f))) f t else mReady (sS (mDel s n t (s 24 f) (s 25 f) (vN (s 26 f))) 16 f 0) f
def mRecE (s : mS) (n t c : Nat) : mR := if mWaiting s (s 8 c) 1 (nI 2) = 0 then (0, 1, mWaits s t (nI 4) (s 8 c)) else (0, 0, mTake s n t (mWaiting s (s 8 c) 1 (nI 2)))
theorem mTake_0 (s : mS) (n t f : Nat) : mTake s n t f 0 0 = s 0 0 := by
  unfold mTake
  split
  · unfold mAsks
    simp only [sS_app, Nat.reduceEqDiff, false_and, ↓reduceIte]
    exact mDel_sc _ _ _ _ _ _ (by decide) _
  · unfold mReady
    simp only [sS_app, Nat.reduceEqDiff, false_and, ↓reduceIte]
    exact mDel_sc _ _ _ _ _ _ (by decide) _
theorem t_rec115 (ok : mOk h m) {n t c : Nat} {sl : Int32} (hm : s 13 0 = nI n) (hn : n + 1 < 1200) (ht : t < 4) (hc : c < 1200) (h38 : s 38 0 = nI t) (h39 : s 39 0 = nI c) (h00 : s 0 0 = 0) (S : ∀ u, u < 4 → isN (s 26 u) 1200) (h41 : 0 ≤ s 27 t → isN sl 400) : mDone z h m (B_M_receive_115 z m sl (nI t) (some (m + 32)) (mPut h m s)) (mRecE (sS s 41 t sl) n t c) := by
  have hw := mWaiting_lt (sS s 41 t sl) (sS s 41 t sl 8 c) 1 (nI 2)
  have e8 : sS s 41 t sl 8 c = s 8 c := rfl
  rw [e8] at hw
  have e13 : sS s 41 t sl 13 0 = nI n := hm
  have e38 : sS s 41 t sl 38 0 = nI t := h38
  have e39 : sS s 41 t sl 39 0 = nI c := h39
  have e41 : 0 ≤ sS s 41 t sl 27 t → isN (sS s 41 t sl 41 t) 400 := by
    rw [sS_same]
    exact h41
  refine f_done (E_M_receive_115 z m _ _ _ _) ?_
  obtain ⟨g, hg, hge⟩ : ∃ g, g < 1200 ∧ s 26 (mWaiting (sS s 41 t sl) (s 8 c) 1 (nI 2)) = nI g := ⟨_, (S _ hw).2, (S _ hw).1⟩
  have vg : vN (nI g) = g := vN_nI (by omega)
  have e26 : sS s 41 t sl 26 (mWaiting (sS s 41 t sl) (s 8 c) 1 (nI 2)) = nI g := hge
  simp only [D_M_receive_115, Option.bind_some, mw_slotSaid ok ht, mr_of ok, mr_cap ok, e39, ma_of ok hc, e8, xisO_m ok, ic_1, ic_2, t_M_waiting ok, xclI_some, mr_at ok, e38, mr_message ok, ma_message ok hw, mr_messageBadge ok, ma_messageBadge ok hw, mr_gift ok, ma_gift ok hw, e26, t_M_deliver ok e13 hn ht hg e41, xclV_some, mr_state ok, ma_state ok hw, mr_outcome ok, mw_outcome ok hw, ic_0, ic_4, t_M_waits ok ht, t_M_ready ok hw, t_rec216]
  unfold mRecE
  rw [e8]
  by_cases g1 : mWaiting (sS s 41 t sl) (s 8 c) 1 (nI 2) = 0
  · rw [if_neg (fun w => w (by rw [g1]; decide)), if_pos g1]
    refine ⟨_, rfl, mEq.rf _, ?_⟩
    show mWaits _ _ _ _ 0 0 = 0
    unfold mWaits
    simp only [sS_app, Nat.reduceEqDiff, false_and, ↓reduceIte]
    exact h00
  · rw [if_pos (nI_ne0 (by omega) (by omega)), if_neg g1]
    refine ⟨mTake (sS s 41 t sl) n t (mWaiting (sS s 41 t sl) (s 8 c) 1 (nI 2)), ?_, mEq.rf _, (mTake_0 _ _ _ _).trans h00⟩
    have d15 := fun w b g => mDel_sc (sS s 41 t sl) n t w b g (f := 15) (by decide) (mWaiting (sS s 41 t sl) (s 8 c) 1 (nI 2))
    have d38 := fun w b g => (mDel_sc (sS s 41 t sl) n t w b g (f := 38) (by decide) 0).trans e38
    unfold mTake
    rw [e26, vg]
    simp only [d15, d38, t_M_asks ok hw ht, xclV_some, t_rec216]
    by_cases g2 : sS s 41 t sl 15 (mWaiting (sS s 41 t sl) (s 8 c) 1 (nI 2)) = nI 2
    · rw [if_neg (fun w => w g2), if_pos g2]
    · rw [if_pos g2, if_neg g2]
theorem t_rec77r (ok : mOk h m) {i : Int32} : mDone z h m (B_M_receive_77 z m i 0 (some m) (mPut h m s)) (nI 4, 0, s) := by
  have so := t_M_so (z := z) (s := s) ok 0 (Or.inl rfl)
  rw [if_pos rfl] at so
  refine ⟨sS s 0 0 (nI 4), E_M_receive_77 z m _ _ _ _ _ ?_, (mEq.rf s).sc (Or.inl rfl) 0 _, sS_same _ _ _ _⟩
  simp only [D_M_receive_77, xisO_m ok, so, xclI_some, Option.bind_some]
  rw [if_neg (fun w => w trivial), t_rec83]
/-- receive: sl is the SLOT that i leads to, if one -/
def mRecC (s : mS) (n t c : Nat) (i sl : Int32) : mR := if ¬ s 1 (vN (s 8 c)) = 1 then (1, 0, s) else if ¬ s 9 c &&& 1 = 1 then (nI 3, 0, s) else if s 8 c ≤ 1 then (nI 4, 0, s) else mRecE (mSaid s t i sl) n t c
theorem t_rec77 (ok : mOk h m) {n t c : Nat} {i sl : Int32} (hm : s 13 0 = nI n) (hn : n + 1 < 1200) (ht : t < 4) (hc : c < 1200) (h38 : s 38 0 = nI t) (h39 : s 39 0 = nI c) (h00 : s 0 0 = 0) (S : ∀ u, u < 4 → isN (s 26 u) 1200) (hi : (0 ≤ i ∧ s 40 0 = sl ∧ isN sl 400) ∨ (¬ 0 ≤ i ∧ sl = -1)) : mDone z h m (B_M_receive_77 z m i 1 (some m) (mPut h m s)) (mRecE (mSaid s t i sl) n t c) := by
  have so := t_M_so (z := z) (s := s) ok 1 (Or.inr rfl)
  rw [if_neg (by decide)] at so
  have e38 : sS s 27 t i 38 0 = nI t := h38
  have e40 : sS s 27 t i 40 0 = s 40 0 := rfl
  refine f_done (E_M_receive_77 z m _ _ _ _) ?_
  simp only [D_M_receive_77, xisO_m ok, so, xclI_some, Option.bind_some, mr_into ok, mr_at ok, h38, mw_into ok ht, mr_slotSaid ok, e38, mr_goal ok, e40, ic_m1]
  rw [if_pos (by decide)]
  rcases hi with ⟨g, e, hn4⟩ | ⟨g, e⟩
  · rw [if_pos g, e]
    exact t_rec115 (s := sS s 27 t i) ok hm hn ht hc h38 h39 h00 S (fun _ => hn4)
  · rw [if_neg g, e]
    refine t_rec115 (s := sS s 27 t i) ok hm hn ht hc h38 h39 h00 S (fun w => ?_)
    rw [sS_same] at w
    exact absurd w g
theorem mEq.take {s σ : mS} (e : mEq s σ) (n t f : Nat) : mEq (mTake s n t f) (mTake σ n t f) := by
  unfold mTake
  rw [e 15 (by decide), e 24 (by decide), e 25 (by decide), e 26 (by decide)]
  split
  · exact (e.del _ _ _ _ _).asks _ _
  · exact ((e.del _ _ _ _ _).sS _ _ _).ready _
theorem t_recE {o : Option xR} {σ : mS} {n t c : Nat} (e : mEq s σ) (D : mDone z h m o (mRecE σ n t c)) : mDone z h m o (mRecE s n t c) := by
  unfold mRecE at D ⊢
  rw [e.wait, e 8 (by decide)] at D
  by_cases g : mWaiting s (s 8 c) 1 (nI 2) = 0
  · rw [if_pos g] at D ⊢
    exact D.eq2 (e.waits _ _ _)
  · rw [if_neg g] at D ⊢
    exact D.eq2 (e.take _ _ _)
theorem t_rec49 (ok : mOk h m) (W : mWF s) (S : mWS s) {n t c : Nat} {i sl : Int32} (hm : s 13 0 = nI n) (hn : n + 1 < 1200) (ht : t < 4) (hc : c < 1200) {σ : mS} (K : mWk s t σ) (h39 : σ 39 0 = nI c) (hi : (0 ≤ i ∧ σ 40 0 = sl ∧ isN sl 400) ∨ (¬ 0 ≤ i ∧ sl = -1)) : mDone z h m (B_M_receive_49 z m i (mPut h m σ)) (mRecC s n t c i sl) := by
  obtain ⟨σ3, e3, q3, d1, d2, d3⟩ := w_is (z := z) ok W hc K h39 1 1
  refine f_done (E_M_receive_49 z m _ _) ?_
  unfold mRecC
  simp only [D_M_receive_49, xisO_m ok, ic_1, e3, xclI_some, Option.bind_some, mr_of ok, ic_0]
  by_cases g1 : s 1 (vN (s 8 c)) = 1
  · by_cases g2 : s 9 c &&& 1 = 1
    · rw [xb_same (p := s 1 (vN (s 8 c)) = 1 ∧ s 9 c &&& 1 = 1) ⟨g1, g2⟩, if_neg (show ¬ (1 : Int32) = 0 by decide), if_neg (show ¬ ¬ s 1 (vN (s 8 c)) = 1 from fun w => w g1), if_neg (show ¬ ¬ s 9 c &&& 1 = 1 from fun w => w g2)]
      rw [d3 g1 g2]
      obtain ⟨q, h38, h00⟩ := K
      have s8 : σ 8 = s 8 := q 8 (by decide)
      rw [mr_cap ok, h39, Option.bind_some, ma_of ok hc, Option.bind_some, s8]
      by_cases g3 : s 8 c ≤ 1
      · rw [if_pos g3, if_pos g3]
        exact (t_rec77r ok).eq2 q
      · rw [if_neg g3, if_neg g3]
        have hm3 : σ 13 0 = nI n := by rw [q 13 (by decide)]; exact hm
        exact t_recE ((q.sS _ _ _).sS _ _ _) (t_rec77 ok hm3 hn ht hc h38 h39 h00 (fun u hu => ((q.ws S) u hu).2.1) hi)
    · rw [xb_not (p := s 1 (vN (s 8 c)) = 1 ∧ s 9 c &&& 1 = 1) (fun w => g2 w.2), if_pos rfl, if_neg (fun w => w g1), if_pos g2, t_rec83]
      exact ⟨σ3, rfl, q3, d2 g1 g2⟩
  · rw [xb_not (p := s 1 (vN (s 8 c)) = 1 ∧ s 9 c &&& 1 = 1) (fun w => g1 w.1), if_pos rfl, if_pos g1, t_rec83]
    exact ⟨σ3, rfl, q3, d1 g1⟩
def mRec0 (s : mS) (n t a : Nat) : mR := if mCapa s t a = 0 then (nI 2, 0, s) else mRecC s n t (vN (mCapa s t a)) (-1) (-1)
def mRec1 (s : mS) (n t a b : Nat) : mR := if mCapa s t a = 0 then (nI 2, 0, s) else match mPlace s t b with
  | none => (nI 2, 0, s)
  | some q => mRecC s n t (vN (mCapa s t a)) (nI b) (nI q)
theorem t_rec23a (ok : mOk h m) (W : mWF s) (S : mWS s) {n t a : Nat} (hm : s 13 0 = nI n) (hn : n + 1 < 1200) (ht : mNow s = t) (ht0 : t ≠ 0) (ha : a < 72) : mDone z h m (B_M_receive_23 z m (nI a) (-1) 1 (some m) (mPut h m s)) (mRec0 s n t a) := by
  have ht4 : t < 4 := by rw [← ht]; exact mNow_lt s
  obtain ⟨σ1, σ2, e1, e2, q2, c2, K2⟩ := w_a (z := z) ok W ht ht0 ha
  refine f_done (E_M_receive_23 z m _ _ _ _ _) ?_
  unfold mRec0
  simp only [D_M_receive_23, xisO_m ok, e1, xclI_some, Option.bind_some, e2]
  rw [if_neg (by decide)]
  by_cases hc : mCapa s t a = 0
  · rw [xb_not (p := mCapa s t a ≠ 0) (fun w => w hc), if_pos rfl, if_pos hc, t_rec83]
    exact ⟨σ2, rfl, q2, c2 hc⟩
  · rw [xb_same (p := mCapa s t a ≠ 0) hc, if_neg (show ¬ (1 : Int32) = 0 by decide), if_pos (show (-1 : Int32) < 0 by decide), if_neg hc]
    obtain ⟨K2, c, hcl, hce, h39⟩ := K2 hc
    have vc : vN (nI c) = c := vN_nI (by omega)
    rw [hce, vc]
    exact t_rec49 ok W S hm hn ht4 hcl K2 h39 (Or.inr ⟨by decide, rfl⟩)
theorem t_rec23b (ok : mOk h m) (W : mWF s) (S : mWS s) {n t a b : Nat} (hm : s 13 0 = nI n) (hn : n + 1 < 1200) (ht : mNow s = t) (ht0 : t ≠ 0) (ha : a < 72) (hb : b < 72) : mDone z h m (B_M_receive_23 z m (nI a) (nI b) 1 (some m) (mPut h m s)) (mRec1 s n t a b) := by
  have ht4 : t < 4 := by rw [← ht]; exact mNow_lt s
  refine f_done (E_M_receive_23 z m _ _ _ _ _) ?_
  unfold mRec1
  by_cases hc : mCapa s t a = 0
  · obtain ⟨σ1, σ2, e1, e2, q2, c2, K2⟩ := w_a (z := z) ok W ht ht0 ha
    rw [xb_not (p := mCapa s t a ≠ 0) (fun w => w hc)] at e2
    rw [if_pos hc]
    simp only [D_M_receive_23, xisO_m ok, e1, xclI_some, Option.bind_some, e2]
    rw [if_neg (by decide), if_pos trivial, t_rec83]
    exact ⟨σ2, rfl, q2, c2 hc⟩
  · obtain ⟨σ1, σ2, σ3, c, e1, e2, e3, q3, c3, hcl, hce, h39, K3⟩ := w_ab (z := z) ok W ht ht0 ha hb hc
    have vc : vN (nI c) = c := vN_nI (by omega)
    rw [if_neg hc, hce, vc]
    simp only [D_M_receive_23, xisO_m ok, e1, xclI_some, Option.bind_some, e2, e3]
    rw [if_neg (by decide), if_neg (by decide), if_neg (nI_pos (by omega))]
    cases hp : mPlace s t b with
    | none =>
      rw [xb_not (by decide), if_pos rfl, t_rec83]
      exact ⟨σ3, rfl, q3, c3 hp⟩
    | some q =>
      rw [xb_same (show (some q).isSome = true from rfl), if_neg (by decide)]
      obtain ⟨hq, K3, h40⟩ := K3 q hp
      exact t_rec49 ok W S hm hn ht4 hcl K3 h39 (Or.inl ⟨nI_pos' (by omega), h40, isN_nI hq (by decide)⟩)
theorem t_rec23r (ok : mOk h m) {g p1 p2 : Int32} (hg : g = 0 ∨ g = 1) (hr : mNow s = 0 ∨ g = 0) : mDone z h m (B_M_receive_23 z m p1 p2 g (some m) (mPut h m s)) (mRef s) := by
  obtain ⟨σ, e1, q1, c1⟩ := w_refuse (z := z) (s := s) ok hg hr
  refine ⟨σ, E_M_receive_23 z m _ _ _ _ _ _ ?_, q1, c1⟩
  simp only [D_M_receive_23, xisO_m ok, e1, xclI_some, Option.bind_some]
  rw [if_pos trivial, t_rec83]
  rfl
theorem t_rec22 (ok : mOk h m) {p1 p2 : Int32} : mDone z h m (B_M_receive_22 z m p1 p2 (some m) (mPut h m s)) (mRef s) := by
  refine f_done (E_M_receive_22 z m _ _ _ _) ?_
  unfold D_M_receive_22
  rw [ic_0]
  exact t_rec23r ok (Or.inl rfl) (Or.inr rfl)
theorem t_M_receive_bad (ok : mOk h m) {p1 p2 : Int32} (hr : mNow s = 0 ∨ ¬ (rAd p1 ∧ rIn p2 (-1) (nI 71))) : mDone z h m (f_M_receive z [.ref m, .int p1, .int p2] (mPut h m s)) (mRef s) := by
  refine f_done (E_M_receive z m p1 p2 (mPut h m s)) ?_
  simp only [D_M_receive_0, t_M_reaches, t_M_within, xclI_some, ic_m1, bc_71, ic_1]
  by_cases h1 : rAd p1
  · rw [if_neg (fun w => ((xif_in _ _ _).mp w) h1)]
    by_cases h2 : rIn p2 (-1) (nI 71)
    · rw [if_neg (fun w => ((xif_in _ _ _).mp w) h2)]
      exact t_rec23r ok (Or.inr rfl) (Or.inl (hr.resolve_right (fun w => w ⟨h1, h2⟩)))
    · rw [if_pos ((xif_in _ _ _).mpr h2)]
      exact t_rec22 ok
  · rw [if_pos ((xif_in _ _ _).mpr h1)]
    exact t_rec22 ok
theorem t_M_receive0 (ok : mOk h m) (W : mWF s) (S : mWS s) {n a : Nat} (hm : s 13 0 = nI n) (hn : n + 1 < 1200) (ht0 : mNow s ≠ 0) (ha : a < 72) : mDone z h m (f_M_receive z [.ref m, .int (nI a), .int (-1)] (mPut h m s)) (mRec0 s n (mNow s) a) := by
  refine f_done (E_M_receive z m (nI a) (-1) (mPut h m s)) ?_
  simp only [D_M_receive_0, t_M_reaches, t_M_within, xclI_some, ic_m1, bc_71, ic_1]
  rw [if_neg (fun w => ((xif_in _ _ _).mp w) (rAd_nI ha)), if_neg (fun w => ((xif_in _ _ _).mp w) rIn_m1)]
  exact t_rec23a ok W S hm hn rfl ht0 ha
theorem t_M_receive1 (ok : mOk h m) (W : mWF s) (S : mWS s) {n a b : Nat} (hm : s 13 0 = nI n) (hn : n + 1 < 1200) (ht0 : mNow s ≠ 0) (ha : a < 72) (hb : b < 72) : mDone z h m (f_M_receive z [.ref m, .int (nI a), .int (nI b)] (mPut h m s)) (mRec1 s n (mNow s) a b) := by
  refine f_done (E_M_receive z m (nI a) (nI b) (mPut h m s)) ?_
  simp only [D_M_receive_0, t_M_reaches, t_M_within, xclI_some, ic_m1, bc_71, ic_1]
  rw [if_neg (fun w => ((xif_in _ _ _).mp w) (rAd_nI ha)), if_neg (fun w => ((xif_in _ _ _).mp w) (rIn_nI hb))]
  exact t_rec23b ok W S hm hn rfl ht0 ha hb
end MT
