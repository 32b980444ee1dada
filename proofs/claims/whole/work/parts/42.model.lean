/-! The reference: mint, move. -/
section ML
variable {z : xzs} {h : xH} {m : Nat} {s : mS}
theorem w_a (ok : mOk h m) (W : mWF s) {a t : Nat} (ht : mNow s = t) (ht0 : t ≠ 0) (ha : a < 72) : ∃ σ1 σ2, f_M_begins z [.ref m, .int 1] (mPut h m s) = some (.inl (some (.int 1)), mPut h m σ1) ∧ f_M_has z [.ref m, .int (nI a)] (mPut h m σ1) = some (.inl (some (.int (xb (mCapa s t a ≠ 0)))), mPut h m σ2) ∧ mEq s σ2 ∧ (mCapa s t a = 0 → σ2 0 0 = nI 2) ∧ (mCapa s t a ≠ 0 → mWk s t σ2 ∧ ∃ c, c < 1200 ∧ mCapa s t a = nI c ∧ σ2 39 0 = nI c) := by
  have ht4 : t < 4 := by rw [← ht]; exact mNow_lt s
  obtain ⟨σ1, e1, -, -, K1⟩ := w_begins (z := z) (s := s) ok 1
  have K1 := K1 (by rw [ht]; exact ht0) (by decide)
  rw [xb_same ⟨by rw [ht]; exact ht0, by decide⟩] at e1
  rw [ht] at K1
  obtain ⟨σ2, e2, q2, c2, K2, -⟩ := w_has (z := z) ok W ht4 ha K1
  refine ⟨σ1, σ2, e1, e2, q2, c2, fun hc => ?_⟩
  obtain ⟨K, h39⟩ := K2 hc
  have hi := mCapa_isN W ht4 ha
  exact ⟨K, _, hi.2, hi.1, by rw [h39]; exact hi.1⟩
theorem w_ab (ok : mOk h m) (W : mWF s) {a b t : Nat} (ht : mNow s = t) (ht0 : t ≠ 0) (ha : a < 72) (hb : b < 72) (hc : ¬ mCapa s t a = 0) : ∃ σ1 σ2 σ3 c, f_M_begins z [.ref m, .int 1] (mPut h m s) = some (.inl (some (.int 1)), mPut h m σ1) ∧ f_M_has z [.ref m, .int (nI a)] (mPut h m σ1) = some (.inl (some (.int 1)), mPut h m σ2) ∧ f_M_leads z [.ref m, .int (nI b)] (mPut h m σ2) = some (.inl (some (.int (xb ((mPlace s t b).isSome = true)))), mPut h m σ3) ∧ mEq s σ3 ∧ (mPlace s t b = none → σ3 0 0 = nI 2) ∧ c < 1200 ∧ mCapa s t a = nI c ∧ σ3 39 0 = nI c ∧ (∀ q, mPlace s t b = some q → q < 400 ∧ mWk s t σ3 ∧ σ3 40 0 = nI q) := by
  have ht4 : t < 4 := by rw [← ht]; exact mNow_lt s
  obtain ⟨σ1, σ2, e1, e2, q2, -, K2⟩ := w_a (z := z) ok W ht ht0 ha
  rw [xb_same hc] at e2
  obtain ⟨K2, c, hcl, hce, h39⟩ := K2 hc
  obtain ⟨σ3, e3, q3, c3, K3, h39'⟩ := w_leads (z := z) ok W ht4 hb K2
  exact ⟨σ1, σ2, σ3, c, e1, e2, e3, q3, c3, hcl, hce, by rw [h39', h39], fun q hq => ⟨mPlace_lt W ht4 hb hq, K3 q hq⟩⟩
-- mint
def mMintG (s : mS) (n t a b : Nat) (p v : Int32) : mR := if mCapa s t a = 0 then (nI 2, 0, s) else match mPlace s t b with
  | none => (nI 2, 0, s)
  | some q => if ¬ (s 1 (vN (s 8 (vN (mCapa s t a)))) = 1 ∨ s 1 (vN (s 8 (vN (mCapa s t a)))) = nI 2) then (1, 0, s)
    else if ¬ (s 10 (vN (mCapa s t a)) = 0 ∧ s 14 q = 0) then (nI 4, 0, s)
    else (0, s 9 (vN (mCapa s t a)) &&& p, mPutC s n q (s 8 (vN (mCapa s t a))) (s 9 (vN (mCapa s t a)) &&& p) v (mCapa s t a))
theorem t_mint64 (H : xH) : B_M_mint_64 z H = some (.inl (some (.int 0)), H) := by
  refine E_M_mint_64 z H _ ?_
  unfold D_M_mint_64
  rw [ic_0]
theorem t_mint137 (ok : mOk h m) {p v : Int32} : mDone z h m (B_M_mint_137 z m p v (some m) (mPut h m s)) (nI 4, 0, s) := by
  have so := t_M_so (z := z) (s := s) ok 0 (Or.inl rfl)
  rw [if_pos rfl] at so
  refine ⟨sS s 0 0 (nI 4), E_M_mint_137 z m _ _ _ _ _ ?_, (mEq.rf s).sc (Or.inl rfl) 0 _, sS_same _ _ _ _⟩
  unfold D_M_mint_137
  rw [ic_0]
  refine E_M_mint_138 z m _ _ _ _ _ _ ?_
  simp only [D_M_mint_138, xisO_m ok, so, xclI_some, Option.bind_some, ic_0]
  rw [if_neg (by decide)]
theorem t_mint108 (ok : mOk h m) {n c q : Nat} {p v : Int32} (hm : s 13 0 = nI n) (hn : n + 1 < 1200) (hc : c < 1200) (hq : q < 400) (h39 : s 39 0 = nI c) (h40 : s 40 0 = nI q) (h00 : s 0 0 = 0) : mDone z h m (B_M_mint_108 z m p v (mPut h m s)) (if ¬ (s 10 c = 0 ∧ s 14 q = 0) then (nI 4, 0, s) else (0, s 9 c &&& p, mPutC s n q (s 8 c) (s 9 c &&& p) v (nI c))) := by
  refine f_done (E_M_mint_108 z m _ _ _) ?_
  simp only [D_M_mint_108, mr_badge ok, mr_cap ok, h39, ma_badge ok hc, mr_slot ok, mr_goal ok, h40, ma_slot ok hq, Option.bind_some, ic_1]
  by_cases g1 : s 10 c = 0
  · rw [if_neg (fun w => w g1)]
    by_cases g2 : s 14 q = 0
    · rw [if_neg (fun w => w g2), if_neg (fun w => w ⟨g1, g2⟩)]
      have so := t_M_so (z := z) (s := s) ok 1 (Or.inr rfl)
      rw [if_neg (by decide)] at so
      have pt := t_M_put (z := z) (s := s) ok (c := n) (sl := q) hm hn hq
      refine ⟨mPutC s n q (s 8 c) (s 9 c &&& p) v (nI c), E_M_mint_138 z m _ _ _ _ _ _ ?_, mEq.rf _, ?_⟩
      · simp only [D_M_mint_138, xisO_m ok, so, xclI_some, Option.bind_some, mr_goal ok, h40, mr_of ok, mr_cap ok, h39, ma_of ok hc, mr_rights ok, ma_rights ok hc, pt]
        rw [if_pos (by decide)]
      · show mPutC s n q _ _ _ _ 0 0 = 0
        unfold mPutC
        simp only [sS_app, Nat.reduceEqDiff, false_and, ↓reduceIte]
        exact h00
    · rw [if_pos g2, if_pos (fun w => g2 w.2)]
      exact t_mint137 ok
  · rw [if_pos g1, if_pos (fun w => g1 w.1)]
    exact t_mint137 ok
theorem mDone.eq2 {o : Option xR} {c v : Int32} {s s' : mS} (hd : mDone z h m o (c, v, s')) (e : mEq s s') : mDone z h m o (c, v, s) := mDone.eq e hd
theorem t_mint42 (ok : mOk h m) (W : mWF s) {n t a b : Nat} {p v : Int32} (hm : s 13 0 = nI n) (hn : n + 1 < 1200) (ht : mNow s = t) (ht0 : t ≠ 0) (ha : a < 72) (hb : b < 72) : mDone z h m (B_M_mint_42 z m (nI a) (nI b) p v 1 (some m) (mPut h m s)) (mMintG s n t a b p v) := by
  refine f_done (E_M_mint_42 z m _ _ _ _ _ _ _) ?_
  unfold mMintG
  by_cases hc : mCapa s t a = 0
  · rw [if_pos hc]
    obtain ⟨σ1, σ2, e1, e2, q2, c2, -⟩ := w_a (z := z) ok W ht ht0 ha
    rw [xb_not (fun w => w hc)] at e2
    refine ⟨σ2, ?_, q2, c2 hc⟩
    simp only [D_M_mint_42, xisO_m ok, e1, xclI_some, Option.bind_some, e2]
    rw [if_neg (by decide), if_pos trivial, t_mint64]
  · rw [if_neg hc]
    obtain ⟨σ1, σ2, σ3, c, e1, e2, e3, q3, c3, hcl, hce, h39, K3⟩ := w_ab (z := z) ok W ht ht0 ha hb hc
    cases hp : mPlace s t b with
    | none =>
      rw [hp, xb_not (by decide)] at e3
      refine ⟨σ3, ?_, q3, c3 hp⟩
      simp only [D_M_mint_42, xisO_m ok, e1, xclI_some, Option.bind_some, e2, e3]
      rw [if_neg (by decide), if_neg (by decide), if_neg (fun w => w trivial), t_mint64]
    | some q =>
      rw [hp, xb_same (show (some q).isSome = true from rfl)] at e3
      obtain ⟨hq, ⟨-, h38, h00⟩, h40⟩ := K3 q hp
      have vc : vN (nI c) = c := vN_nI (by omega)
      obtain ⟨o, hol, hoe⟩ : ∃ o, o < 50 ∧ s 8 c = nI o := ⟨_, (W.2 _ hcl).2, (W.2 _ hcl).1⟩
      have vo : vN (nI o) = o := vN_nI (by omega)
      have s8 : σ3 8 c = nI o := by rw [q3 8 (by decide)]; exact hoe
      have s1 : σ3 1 = s 1 := q3 1 (by decide)
      have hm3 : σ3 13 0 = nI n := by rw [q3 13 (by decide)]; exact hm
      have D := t_mint108 (z := z) (p := p) (v := v) ok hm3 hn hcl hq h39 h40 h00
      rw [q3 10 (by decide), q3 14 (by decide), q3 9 (by decide), q3 8 (by decide)] at D
      have D' : mDone z h m (B_M_mint_108 z m p v (mPut h m σ3)) (if ¬ (s 10 c = 0 ∧ s 14 q = 0) then (nI 4, 0, s) else (0, s 9 c &&& p, mPutC s n q (s 8 c) (s 9 c &&& p) v (nI c))) := by
        by_cases g : s 10 c = 0 ∧ s 14 q = 0
        · rw [if_neg (fun w => w g)] at D ⊢
          exact D.eq2 (q3.putC _ _ _ _ _ _)
        · rw [if_pos g] at D ⊢
          exact D.eq2 q3
      simp only [D_M_mint_42, xisO_m ok, e1, xclI_some, Option.bind_some, e2, e3, mr_kind ok, mr_of ok, mr_cap ok, h39, ma_of ok hcl, s8, ma_kind ok hol, s1, ic_1, ic_2, hce, vc, hoe, vo]
      rw [if_neg (by decide), if_neg (by decide), if_pos (by decide)]
      rw [hoe] at D'
      by_cases g1 : s 1 o = 1
      · rw [if_pos g1, if_neg (fun w => w (Or.inl g1))]
        exact D'
      · rw [if_neg g1]
        by_cases g2 : s 1 o = nI 2
        · rw [if_pos g2, if_neg (fun w => w (Or.inr g2))]
          exact D'
        · rw [if_neg g2, if_pos (fun w => w.elim g1 g2)]
          refine ⟨sS σ3 0 0 1, ?_, q3.sc (Or.inl rfl) 0 _, sS_same _ _ _ _⟩
          rw [t_M_fail ok]
          rfl
end ML
