/-! The reference: revoke, whole. -/
section ND
variable {z : xzs} {h : xH} {m : Nat} {s : mS}
theorem t_M_revoke_bad (ok : mOk h m) {p1 : Int32} (hr : mNow s = 0 ∨ ¬ rAd p1) : mDone z h m (f_M_revoke z [.ref m, .int p1] (mPut h m s)) (mRef s) := by
  obtain ⟨σ, e1, q1, c1⟩ := w_one (z := z) ok hr
  refine ⟨σ, E_M_revoke z m _ _ _ ?_, q1, c1⟩
  simp only [D_M_revoke_0, t_M_reaches, xclI_some, xisO_m ok, e1, Option.bind_some]
  rw [if_pos trivial, t_rev19]
  rfl
theorem t_M_revoke0 (ok : mOk h m) (W : mWF s) {a t : Nat} (ht : mNow s = t) (ht0 : t ≠ 0) (ha : a < 72) (hc : mCapa s t a = 0) : mDone z h m (f_M_revoke z [.ref m, .int (nI a)] (mPut h m s)) (nI 2, 0, s) := by
  obtain ⟨σ1, σ2, e1, e2, q2, c2, -⟩ := w_a (z := z) ok W ht ht0 ha
  rw [xb_not (fun w => w hc)] at e2
  refine ⟨σ2, E_M_revoke z m _ _ _ ?_, q2, c2 hc⟩
  simp only [D_M_revoke_0, t_M_reaches, xif_ad ha, xisO_m ok, e1, xclI_some, Option.bind_some, e2]
  rw [if_neg (by decide), if_neg (fun w => w trivial), t_rev19]
theorem mRevE_0 (s : mS) (x o : Nat) : mRevE s x o 0 0 = s 0 0 := by
  unfold mRevE
  by_cases g : mFreeO s o (x - 10) (if s 1 o = 0 then 1 else 0) = 0
  · rw [if_pos g]
  · rw [if_neg g]; rfl
theorem t_M_revoke (ok : mOk h m) (W : mWF s) (P : mPar s) {n x F G a t v' : Nat} {s' : mS} (hm : s 13 0 = nI n) (hn : n < 1200) (h7 : s 7 0 = nI x) (hx : x ≤ 50) (ht : mNow s = t) (ht0 : t ≠ 0) (ha : a < 72) (hc : ¬ mCapa s t a = 0)
    (hR : mRevOk n F (vN (mCapa s t a)) G (mYoung s (vN (mCapa s t a)) n) 0 s v' s') : mDone z h m (f_M_revoke z [.ref m, .int (nI a)] (mPut h m s)) (0, nI v', mRevE s' x (vN (s 8 (vN (mCapa s t a))))) := by
  obtain ⟨σ1, σ2, e1, e2, q2, -, K2⟩ := w_a (z := z) ok W ht ht0 ha
  rw [xb_same hc] at e2
  obtain ⟨⟨-, h38, h00⟩, c, hcl, hce, h39⟩ := K2 hc
  have vc : vN (nI c) = c := vN_nI (by omega)
  rw [hce, vc] at hR ⊢
  obtain ⟨o, hol, hoe⟩ : ∃ o, o < 50 ∧ s 8 c = nI o := ⟨_, (W.2 _ hcl).2, (W.2 _ hcl).1⟩
  have vo : vN (nI o) = o := vN_nI (by omega)
  have s8 : σ2 8 c = nI o := by rw [q2 8 (by decide)]; exact hoe
  rw [hoe, vo]
  obtain ⟨σ', r, e', c'⟩ := t_rev43 (z := z) ok hn hcl hx hol G _ 0 s σ2 v' s' hR q2 h7
  have y1 := t_M_youngest (z := z) (s := σ2) (top := c) ok (mPar_congr (q2 11 (by decide)) P) hcl (by rw [q2 13 (by decide)]; exact hm) hn
  rw [mYoung_congr (q2 11 (by decide)) (q2 12 (by decide))] at y1
  refine ⟨mRevE σ' x o, E_M_revoke z m _ _ _ ?_, mEq_revE e' _ _, (mRevE_0 _ _ _).trans (c'.trans h00)⟩
  simp only [D_M_revoke_0, t_M_reaches, xif_ad ha, xisO_m ok, e1, xclI_some, Option.bind_some, e2, mr_cap ok, h39, mr_of ok, ma_of ok hcl, s8, y1, ic_0n]
  rw [if_neg (by decide), if_pos (by decide)]
  exact r
end ND
