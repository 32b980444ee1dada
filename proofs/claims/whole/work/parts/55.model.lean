/-! The reference: what drop leaves alone; delete. -/
section NA
variable {z : xzs} {h : xH} {m : Nat} {s : mS}
theorem mPushL_ne (o : Nat) {f : Nat} (h2 : f ≠ 32) (h3 : f ≠ 33) (j' : Nat) : ∀ (j : Nat) (s : mS), mPushL o j s f j' = s f j'
  | 0, _ => rfl
  | j + 1, s => by
    unfold mPushL
    rw [mPushL_ne o h2 h3 j' j]
    split
    · rfl
    · rw [sS_nf _ h3, sS_nf _ h2]
theorem mDrop1_ne {n c f : Nat} (hf : f ≠ 6 ∧ f ≠ 11 ∧ f ≠ 12 ∧ f ≠ 14 ∧ f ≠ 15 ∧ f ≠ 16 ∧ f ≠ 21 ∧ f ≠ 31 ∧ f ≠ 32 ∧ f ≠ 33) (j : Nat) {s s' : mS} (hs : mDrop1 n c s = some s') : s' f j = s f j := by
  obtain ⟨h6, h11, h12, h14, h15, h16, h21, h31, h32, h33⟩ := hf
  unfold mDrop1 at hs
  cases hq : mSlotOf (sS s 12 c 0) (nI c) with
  | none => rw [hq] at hs; exact absurd hs (by simp)
  | some q =>
    rw [hq] at hs
    simp only at hs
    have eR : mRep (sS (sS s 12 c 0) 14 q 0) c n f j = s f j := by rw [mRep_ne _ _ _ h11, sS_nf _ h14, sS_nf _ h12]
    by_cases g1 : s 8 c = nI (vN (s 8 c)) ∧ vN (s 8 c) < 50 ∧ q < 400
    · rw [if_pos g1] at hs
      by_cases g2 : vN (s 8 c) < 5 ∨ 0 < mLeft (mRep (sS (sS s 12 c 0) 14 q 0) c n) (nI (vN (s 8 c))) n
      · rw [if_pos g2] at hs
        rw [← Option.some.inj hs]
        exact eR
      · rw [if_neg g2] at hs
        by_cases g3 : s 1 (vN (s 8 c)) = nI 3
        · rw [if_pos g3] at hs
          rw [← Option.some.inj hs, mPushL_ne _ h32 h33, mAbort_ne _ ⟨h15, h16, h21, h31⟩, sS_nf _ h6]
          exact eR
        · rw [if_neg g3] at hs
          rw [← Option.some.inj hs, mAbort_ne _ ⟨h15, h16, h21, h31⟩, sS_nf _ h6]
          exact eR
    · rw [if_neg g1] at hs
      exact absurd hs (by simp)
theorem mDropL_ne {n f : Nat} (hf : f ≠ 6 ∧ f ≠ 11 ∧ f ≠ 12 ∧ f ≠ 14 ∧ f ≠ 15 ∧ f ≠ 16 ∧ f ≠ 21 ∧ f ≠ 31 ∧ f ≠ 32 ∧ f ≠ 33) (j : Nat) : ∀ (F k : Nat) {s : mS} {k' : Nat} {s' : mS}, mDropL n F k s = some (k', s') → s' f j = s f j
  | 0, k, s, k', s', hs => by unfold mDropL at hs; exact absurd hs (by simp)
  | F + 1, k, s, k', s', hs => by
    unfold mDropL at hs
    by_cases g0 : s 33 0 = nI (vN (s 33 0)) ∧ vN (s 33 0) + 8 < 1200 ∧ s 13 0 = nI n ∧ n < 1200
    · rw [if_pos g0] at hs
      by_cases g1 : vN (s 33 0) = 0
      · rw [if_pos g1] at hs
        have hs := Option.some.inj hs
        rw [Prod.mk.injEq] at hs
        rw [← hs.2]
      · rw [if_neg g1] at hs
        by_cases g2 : s 32 (vN (s 33 0) - 1) = nI (vN (s 32 (vN (s 33 0) - 1))) ∧ vN (s 32 (vN (s 33 0) - 1)) < 1200
        · rw [if_pos g2] at hs
          by_cases g3 : s 12 (vN (s 32 (vN (s 33 0) - 1))) = 0
          · rw [if_pos g3] at hs
            rw [mDropL_ne hf j F k hs, sS_nf _ hf.2.2.2.2.2.2.2.2.2]
          · rw [if_neg g3] at hs
            cases h1 : mDrop1 n (vN (s 32 (vN (s 33 0) - 1))) (sS s 33 0 (nI (vN (s 33 0) - 1))) with
            | none => rw [h1] at hs; exact absurd hs (by simp)
            | some s1 =>
              rw [h1, Option.bind_some] at hs
              rw [mDropL_ne hf j F (k + 1) hs, mDrop1_ne hf j h1, sS_nf _ hf.2.2.2.2.2.2.2.2.2]
        · rw [if_neg g2] at hs
          exact absurd hs (by simp)
    · rw [if_neg g0] at hs
      exact absurd hs (by simp)
theorem mED_dropS {s σ : mS} (e : mEq s σ) (c : Nat) : mED (mDropS s c) (mDropS σ c) := by
  refine ⟨(e.sS _ _ _).sS _ _ _, rfl, fun i hi => ?_⟩
  have h1 : vN (mDropS s c 33 0) = 1 := show vN (1 : Int32) = 1 by decide
  rw [h1] at hi
  obtain rfl : i = 0 := by omega
  rfl
theorem w_drop (ok : mOk h m) {n F c k' : Nat} {s' σ : mS} (e : mEq s σ) (hl : mDropL n F 0 (mDropS s c) = some (k', s')) : ∃ σ', f_M_drop z [.ref m, .int (nI c)] (mPut h m σ) = some (.inl (some (.int (nI k'))), mPut h m σ') ∧ mEq s' σ' ∧ (∀ f j, (f = 0 ∨ f = 38 ∨ f = 39 ∨ f = 40) → σ' f j = σ f j) := by
  obtain ⟨σ', r, e'⟩ := mED_dropL F 0 (mED_dropS e c) hl
  refine ⟨σ', t_M_drop ok r, e'.1, fun f j hf => ?_⟩
  rcases hf with rfl | rfl | rfl | rfl
  · rw [mDropL_ne (by decide) j F 0 r]; rfl
  · rw [mDropL_ne (by decide) j F 0 r]; rfl
  · rw [mDropL_ne (by decide) j F 0 r]; rfl
  · rw [mDropL_ne (by decide) j F 0 r]; rfl
theorem t_M_delete0 (ok : mOk h m) (W : mWF s) {a t : Nat} (ht : mNow s = t) (ht0 : t ≠ 0) (ha : a < 72) (hc : mCapa s t a = 0) : mDone z h m (f_M_delete z [.ref m, .int (nI a)] (mPut h m s)) (nI 2, 0, s) := by
  obtain ⟨σ1, σ2, e1, e2, q2, c2, -⟩ := w_a (z := z) ok W ht ht0 ha
  rw [xb_not (fun w => w hc)] at e2
  refine ⟨σ2, E_M_delete z m _ _ _ ?_, q2, c2 hc⟩
  simp only [D_M_delete_0, t_M_reaches, xif_ad ha, xisO_m ok, e1, xclI_some, Option.bind_some, e2]
  rw [if_neg (by decide), if_pos trivial, t_del30]
theorem t_M_delete (ok : mOk h m) (W : mWF s) {n F a t k' : Nat} {s' : mS} (ht : mNow s = t) (ht0 : t ≠ 0) (ha : a < 72) (hc : ¬ mCapa s t a = 0) (hl : mDropL n F 0 (mDropS s (vN (mCapa s t a))) = some (k', s')) : mDone z h m (f_M_delete z [.ref m, .int (nI a)] (mPut h m s)) (0, nI k', s') := by
  obtain ⟨σ1, σ2, e1, e2, q2, -, K2⟩ := w_a (z := z) ok W ht ht0 ha
  rw [xb_same hc] at e2
  obtain ⟨⟨-, h38, h00⟩, c, hcl, hce, h39⟩ := K2 hc
  rw [hce, vN_nI (by omega)] at hl
  obtain ⟨σ', r, e', k⟩ := w_drop (z := z) ok q2 hl
  refine ⟨σ', E_M_delete z m _ _ _ ?_, e', (k 0 0 (Or.inl rfl)).trans h00⟩
  simp only [D_M_delete_0, t_M_reaches, xif_ad ha, xisO_m ok, e1, xclI_some, Option.bind_some, e2, mr_cap ok, h39, r]
  rw [if_neg (by decide), if_neg (by decide), t_del31]
end NA
