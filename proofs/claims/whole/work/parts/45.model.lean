/-! The reference: retype. -/
section MP
variable {z : xzs} {h : xH} {m : Nat} {s : mS}
theorem bc_50 : (Int8.ofInt 50).toInt32 = nI 50 := by decide
theorem bc_10 : (Int8.ofInt 10).toInt32 = nI 10 := by decide
def mTakes (k : Int32) : Int32 := if k = 0 ∨ k = nI 3 then nI 4 else 1
def mSizeK (k : Int32) : Int32 := if k = 0 then nI 4 else 0
/-- a new object x of kind k, made of o -/
def mObj (s : mS) (o x : Nat) (k : Int32) : mS := sS (sS (sS (sS (sS (sS s 3 o (s 3 o + mTakes k)) 7 0 (nI (x + 1))) 1 x k) 2 x (mSizeK k)) 5 x (nI o)) 6 x 1
def mRetS (s : mS) (n q o x c : Nat) (k : Int32) : mS := mPutC (mObj s o x k) n q (nI x) (nI 7) 0 (nI c)
theorem t_ret60 (H : xH) : B_M_retype_60 z H = some (.inl (some (.int 0)), H) := by
  refine E_M_retype_60 z H _ ?_
  unfold D_M_retype_60
  rw [ic_0]
theorem t_ret135 (ok : mOk h m) {k o t : Int32} : mDone z h m (B_M_retype_135 z m k o t (some m) (mPut h m s)) (nI 4, 0, s) := by
  have so := t_M_so (z := z) (s := s) ok 0 (Or.inl rfl)
  rw [if_pos rfl] at so
  refine ⟨sS s 0 0 (nI 4), E_M_retype_135 z m _ _ _ _ _ _ ?_, (mEq.rf s).sc (Or.inl rfl) 0 _, sS_same _ _ _ _⟩
  unfold D_M_retype_135
  rw [ic_0]
  refine E_M_retype_136 z m _ _ _ _ _ _ _ ?_
  simp only [D_M_retype_136, xisO_m ok, so, xclI_some, Option.bind_some, ic_0]
  rw [if_neg (by decide)]
theorem t_ret195 (ok : mOk h m) {n q o x c : Nat} {v : Int32} (hm : s 13 0 = nI n) (hn : n + 1 < 1200) (hx : x < 50) (hq : q < 400) (h39 : s 39 0 = nI c) (h40 : s 40 0 = nI q) : B_M_retype_195 z m (nI o) (nI x) v (nI x) (some (m + 2)) (mPut h m s) = some (.inl (some (.int (nI x - nI 10 + 1))), mPut h m (mPutC (sS (sS (sS s 2 x v) 5 x (nI o)) 6 x 1) n q (nI x) (nI 7) 0 (nI c))) := by
  refine E_M_retype_195 z m _ _ _ _ _ _ _ ?_
  have e40 : sS (sS (sS s 2 x v) 5 x (nI o)) 6 x 1 40 0 = nI q := h40
  have e39 : sS (sS (sS s 2 x v) 5 x (nI o)) 6 x 1 39 0 = nI c := h39
  have e13 : sS (sS (sS s 2 x v) 5 x (nI o)) 6 x 1 13 0 = nI n := hm
  simp only [D_M_retype_195, Option.bind_some, mw_size ok hx, mr_origin ok, mw_origin ok hx, mr_there ok, mw_there ok hx, ic_1, nar_b1, mr_goal ok, e40, mr_cap ok, e39, xisO_m ok, bc_7, bc_10, ic_0, t_M_put ok e13 hn hq, xclI_some]
theorem t_ret87 (ok : mOk h m) {n q o x c : Nat} {k : Int32} (hm : s 13 0 = nI n) (hn : n + 1 < 1200) (h7 : s 7 0 = nI x) (hx : x ≤ 50) (ho : o < 50) (hq : q < 400) (h39 : s 39 0 = nI c) (h40 : s 40 0 = nI q) (h00 : s 0 0 = 0) : mDone z h m (B_M_retype_87 z m k (nI o) (mTakes k) (mPut h m s)) (if ¬ s 14 q = 0 ∨ s 2 o < s 3 o + mTakes k ∨ x = 50 then (nI 4, 0, s) else (0, nI x - nI 10 + 1, mRetS s n q o x c k)) := by
  refine f_done (E_M_retype_87 z m _ _ _ _) ?_
  simp only [D_M_retype_87, mr_slot ok, mr_goal ok, h40, ma_slot ok hq, Option.bind_some, ic_1, mr_used ok, ma_used ok ho, mr_size ok, ma_size ok ho, mr_objects ok, h7, bc_50]
  by_cases g1 : s 14 q = 0
  · rw [if_neg (fun w => w g1)]
    by_cases g2 : s 2 o < s 3 o + mTakes k
    · rw [if_pos g2, if_pos (Or.inr (Or.inl g2))]
      exact t_ret135 ok
    · rw [if_neg g2]
      by_cases g3 : x = 50
      · rw [if_pos (by rw [g3]; decide), if_pos (Or.inr (Or.inr g3))]
        exact t_ret135 ok
      · have hx5 : x < 50 := by omega
        rw [if_neg (nI_ge hx5 (by decide)), if_neg (fun w => w.elim (fun w => w g1) (fun w => w.elim g2 g3))]
        have so := t_M_so (z := z) (s := s) ok 1 (Or.inr rfl)
        rw [if_neg (by decide)] at so
        have e7 : sS s 3 o (s 3 o + mTakes k) 7 0 = nI x := h7
        refine ⟨mRetS s n q o x c k, E_M_retype_136 z m _ _ _ _ _ _ _ ?_, mEq.rf _, ?_⟩
        · simp only [D_M_retype_136, xisO_m ok, so, xclI_some, Option.bind_some, mr_used ok, ma_used ok ho, mw_used ok ho, mr_objects ok, e7, mw_objects ok, ic_1, nI_1, mr_kind ok, mw_kind ok hx5, mr_size ok, ic_0, ic_4]
          have R := fun v => t_ret195 (z := z) (s := sS (sS (sS s 3 o (s 3 o + mTakes k)) 7 0 (nI (x + 1))) 1 x k) (v := v) (n := n) (q := q) (o := o) (x := x) (c := c) ok hm hn hx5 hq h39 h40
          rw [if_pos (by decide), R, R]
          unfold mRetS mObj mSizeK
          by_cases g : k = 0
          · rw [if_neg (fun w => w g), if_pos g]
          · rw [if_pos g, if_neg g]
        · show mRetS s n q o x c k 0 0 = 0
          unfold mRetS mObj mPutC
          simp only [sS_app, Nat.reduceEqDiff, false_and, ↓reduceIte]
          exact h00
  · rw [if_pos g1, if_pos (Or.inl g1)]
    exact t_ret135 ok
theorem mEq.obj {s σ : mS} (e : mEq s σ) (o x : Nat) (k : Int32) : mEq (mObj s o x k) (mObj σ o x k) := by
  unfold mObj
  rw [e 3 (by decide)]
  exact (((((e.sS _ _ _).sS _ _ _).sS _ _ _).sS _ _ _).sS _ _ _).sS _ _ _
def mRetG (s : mS) (n x t a b : Nat) (k : Int32) : mR := if mCapa s t a = 0 then (nI 2, 0, s) else match mPlace s t b with
  | none => (nI 2, 0, s)
  | some q => if ¬ s 1 (vN (s 8 (vN (mCapa s t a)))) = 0 then (1, 0, s) else if ¬ s 9 (vN (mCapa s t a)) &&& nI 2 = nI 2 then (nI 3, 0, s)
    else if ¬ s 14 q = 0 ∨ s 2 (vN (s 8 (vN (mCapa s t a)))) < s 3 (vN (s 8 (vN (mCapa s t a)))) + mTakes k ∨ x = 50 then (nI 4, 0, s)
    else (0, nI x - nI 10 + 1, mRetS s n q (vN (s 8 (vN (mCapa s t a)))) x (vN (mCapa s t a)) k)
theorem t_ret29 (ok : mOk h m) (W : mWF s) {n x t a b : Nat} {k : Int32} (hm : s 13 0 = nI n) (hn : n + 1 < 1200) (h7 : s 7 0 = nI x) (hx : x ≤ 50) (ht : mNow s = t) (ht0 : t ≠ 0) (ha : a < 72) (hb : b < 72) : mDone z h m (B_M_retype_29 z m (nI a) k (nI b) 1 (some m) (mPut h m s)) (mRetG s n x t a b k) := by
  refine f_done (E_M_retype_29 z m _ _ _ _ _ _) ?_
  unfold mRetG
  by_cases hc : mCapa s t a = 0
  · rw [if_pos hc]
    obtain ⟨σ1, σ2, e1, e2, q2, c2, -⟩ := w_a (z := z) ok W ht ht0 ha
    rw [xb_not (fun w => w hc)] at e2
    refine ⟨σ2, ?_, q2, c2 hc⟩
    simp only [D_M_retype_29, xisO_m ok, e1, xclI_some, Option.bind_some, e2]
    rw [if_neg (by decide), if_pos trivial, t_ret60]
  · rw [if_neg hc]
    obtain ⟨σ1, σ2, σ3, c, e1, e2, e3, q3, c3, hcl, hce, h39, K3⟩ := w_ab (z := z) ok W ht ht0 ha hb hc
    cases hp : mPlace s t b with
    | none =>
      rw [hp, xb_not (by decide)] at e3
      refine ⟨σ3, ?_, q3, c3 hp⟩
      simp only [D_M_retype_29, xisO_m ok, e1, xclI_some, Option.bind_some, e2, e3]
      rw [if_neg (by decide), if_neg (by decide), if_pos trivial, t_ret60]
    | some q =>
      rw [hp, xb_same (show (some q).isSome = true from rfl)] at e3
      obtain ⟨hq, K3, h40⟩ := K3 q hp
      have vc : vN (nI c) = c := vN_nI (by omega)
      obtain ⟨σ4, e4, q4, d1, d2, d3⟩ := w_is (z := z) ok W hcl K3 h39 0 (nI 2)
      obtain ⟨-, h38, h00⟩ := K3
      obtain ⟨o, hol, hoe⟩ : ∃ o, o < 50 ∧ s 8 c = nI o := ⟨_, (W.2 _ hcl).2, (W.2 _ hcl).1⟩
      have vo : vN (nI o) = o := vN_nI (by omega)
      simp only [D_M_retype_29, xisO_m ok, e1, xclI_some, Option.bind_some, e2, e3, ic_0, ic_2, e4, hce, vc]
      rw [if_neg (by decide), if_neg (by decide), if_neg (by decide)]
      by_cases g1 : s 1 (vN (s 8 c)) = 0
      · by_cases g2 : s 9 c &&& nI 2 = nI 2
        · rw [xb_same (p := s 1 (vN (s 8 c)) = 0 ∧ s 9 c &&& nI 2 = nI 2) ⟨g1, g2⟩, if_pos (by decide), if_neg (fun w => w g1), if_neg (fun w => w g2)]
          rw [d3 g1 g2, hoe, vo]
          have s8 : σ3 8 c = nI o := by rw [q3 8 (by decide)]; exact hoe
          have hm3 : σ3 13 0 = nI n := by rw [q3 13 (by decide)]; exact hm
          have h73 : σ3 7 0 = nI x := by rw [q3 7 (by decide)]; exact h7
          have D := t_ret87 (z := z) (k := k) ok hm3 hn h73 hx hol hq h39 h40 h00
          rw [q3 14 (by decide), q3 2 (by decide), q3 3 (by decide)] at D
          have D' : mDone z h m (B_M_retype_87 z m k (nI o) (mTakes k) (mPut h m σ3)) (if ¬ s 14 q = 0 ∨ s 2 o < s 3 o + mTakes k ∨ x = 50 then (nI 4, 0, s) else (0, nI x - nI 10 + 1, mRetS s n q o x c k)) := by
            by_cases g : ¬ s 14 q = 0 ∨ s 2 o < s 3 o + mTakes k ∨ x = 50
            · rw [if_pos g] at D ⊢
              exact D.eq2 q3
            · rw [if_neg g] at D ⊢
              exact D.eq2 ((q3.obj _ _ _).putC _ _ _ _ _ _)
          simp only [mr_of ok, mr_cap ok, h39, Option.bind_some, ma_of ok hcl, s8, ic_3, ic_1]
          have R : mTakes k = nI 4 → mDone z h m (B_M_retype_82 z m k (nI o) (mPut h m σ3)) (if ¬ s 14 q = 0 ∨ s 2 o < s 3 o + mTakes k ∨ x = 50 then (nI 4, 0, s) else (0, nI x - nI 10 + 1, mRetS s n q o x c k)) := fun hk => by
            refine f_done (E_M_retype_82 z m _ _ _) ?_
            unfold D_M_retype_82
            rw [ic_4]
            rw [hk] at D' ⊢
            exact D'
          by_cases k0 : k = 0
          · rw [if_pos k0]
            exact R (by unfold mTakes; rw [if_pos (Or.inl k0)])
          · rw [if_neg k0]
            by_cases k3 : k = nI 3
            · rw [if_neg (fun w => w k3)]
              exact R (by unfold mTakes; rw [if_pos (Or.inr k3)])
            · rw [if_pos k3]
              have hk : mTakes k = 1 := by unfold mTakes; rw [if_neg (fun w => w.elim k0 k3)]
              rw [hk] at D' ⊢
              exact D'
        · rw [xb_not (p := s 1 (vN (s 8 c)) = 0 ∧ s 9 c &&& nI 2 = nI 2) (fun w => g2 w.2), if_neg (fun w => w rfl), t_ret60, if_neg (fun w => w g1), if_pos g2]
          exact ⟨σ4, rfl, q4, d2 g1 g2⟩
      · rw [xb_not (p := s 1 (vN (s 8 c)) = 0 ∧ s 9 c &&& nI 2 = nI 2) (fun w => g1 w.1), if_neg (fun w => w rfl), t_ret60, if_pos g1]
        exact ⟨σ4, rfl, q4, d1 g1⟩
theorem t_ret29r (ok : mOk h m) {g p1 p2 p3 : Int32} (hg : g = 0 ∨ g = 1) (hr : mNow s = 0 ∨ g = 0) : mDone z h m (B_M_retype_29 z m p1 p2 p3 g (some m) (mPut h m s)) (mRef s) := by
  obtain ⟨σ, e1, q1, c1⟩ := w_refuse (z := z) (s := s) ok hg hr
  refine ⟨σ, E_M_retype_29 z m _ _ _ _ _ _ _ ?_, q1, c1⟩
  simp only [D_M_retype_29, xisO_m ok, e1, xclI_some, Option.bind_some]
  rw [if_pos trivial, t_ret60]
  rfl
theorem t_ret28 (ok : mOk h m) {p1 p2 p3 : Int32} : mDone z h m (B_M_retype_28 z m p1 p2 p3 (some m) (mPut h m s)) (mRef s) := by
  refine f_done (E_M_retype_28 z m _ _ _ _ _) ?_
  unfold D_M_retype_28
  rw [ic_0]
  exact t_ret29r ok (Or.inl rfl) (Or.inr rfl)
theorem t_M_retype_bad (ok : mOk h m) {p1 p2 p3 : Int32} (hr : mNow s = 0 ∨ ¬ (rAd p1 ∧ rIn p2 0 (nI 3) ∧ rAd p3)) : mDone z h m (f_M_retype z [.ref m, .int p1, .int p2, .int p3] (mPut h m s)) (mRef s) := by
  refine f_done (E_M_retype z m p1 p2 p3 (mPut h m s)) ?_
  simp only [D_M_retype_0, t_M_reaches, t_M_within, xclI_some, ic_0, ic_3, ic_1]
  by_cases h1 : rAd p1
  · rw [if_neg (fun w => ((xif_in _ _ _).mp w) h1)]
    by_cases h2 : rIn p2 0 (nI 3)
    · rw [if_neg (fun w => ((xif_in _ _ _).mp w) h2)]
      by_cases h3 : rAd p3
      · rw [if_neg (fun w => ((xif_in _ _ _).mp w) h3)]
        exact t_ret29r ok (Or.inr rfl) (Or.inl (hr.resolve_right (fun w => w ⟨h1, h2, h3⟩)))
      · rw [if_pos ((xif_in _ _ _).mpr h3)]
        exact t_ret28 ok
    · rw [if_pos ((xif_in _ _ _).mpr h2)]
      exact t_ret28 ok
  · rw [if_pos ((xif_in _ _ _).mpr h1)]
    exact t_ret28 ok
theorem t_M_retype (ok : mOk h m) (W : mWF s) {n x a b : Nat} {k : Int32} (hm : s 13 0 = nI n) (hn : n + 1 < 1200) (h7 : s 7 0 = nI x) (hx : x ≤ 50) (ht0 : mNow s ≠ 0) (ha : a < 72) (hb : b < 72) (hk : rIn k 0 (nI 3)) : mDone z h m (f_M_retype z [.ref m, .int (nI a), .int k, .int (nI b)] (mPut h m s)) (mRetG s n x (mNow s) a b k) := by
  refine f_done (E_M_retype z m (nI a) k (nI b) (mPut h m s)) ?_
  simp only [D_M_retype_0, t_M_reaches, t_M_within, xclI_some, ic_0, ic_3, ic_1]
  rw [if_neg (fun w => ((xif_in _ _ _).mp w) (rAd_nI ha)), if_neg (fun w => ((xif_in _ _ _).mp w) hk), if_neg (fun w => ((xif_in _ _ _).mp w) (rAd_nI hb))]
  exact t_ret29 ok W hm hn h7 hx rfl ht0 ha hb
end MP
