/-! The reference: revoke, its loop. -/
section NC
variable {z : xzs} {h : xH} {m : Nat} {s : mS}
theorem mYoung_congr {s σ : mS} (e1 : σ 11 = s 11) (e2 : σ 12 = s 12) (top : Nat) : ∀ k, mYoung σ top k = mYoung s top k
  | 0 => rfl
  | k + 1 => by
    unfold mYoung
    rw [e2, mCame_congr e1, mYoung_congr e1 e2 top k]
theorem mPar_congr {s σ : mS} (e1 : σ 11 = s 11) (P : mPar s) : mPar σ := fun c hc => by rw [e1]; exact P c hc
/-- the youngest of those that came of c goes, again and again: from the state s, where y is the youngest and v are gone, to s' with v' gone -/
def mRevOk (n F c : Nat) : Nat → Nat → Nat → mS → Nat → mS → Prop
  | 0, _, _, _, _, _ => False
  | G + 1, y, v, s, v', s' => (y = 0 ∧ v' = v ∧ s' = s) ∨ (0 < y ∧ y < 1200 ∧ ∃ k1 s1, mDropL n F 0 (mDropS s y) = some (k1, s1) ∧ mPar s1 ∧ s1 13 0 = nI n ∧ mRevOk n F c G (if s1 12 c = 0 then 0 else mYoung s1 c n) (v + k1) s1 v' s')
theorem t_rev77 {c o v y : Int32} {r : xR} {H : xH} (hn : B_M_revoke_43 z m c o v y H = some r) : B_M_revoke_77 z m c o v y H = some r := by
  refine E_M_revoke_77 z m _ _ _ _ _ _ ?_
  unfold D_M_revoke_77
  exact hn
theorem mEq_revE {s σ : mS} (e : mEq s σ) (x o : Nat) : mEq (mRevE s x o) (mRevE σ x o) := by
  have hf : ∀ g k, mFreeO σ o k g = mFreeO s o k g := fun g k => by
    induction k with
    | zero => rfl
    | succ k ih => unfold mFreeO; rw [e 6 (by decide), e 5 (by decide), ih]
  unfold mRevE
  rw [hf, e 1 (by decide)]
  by_cases g : mFreeO s o (x - 10) (if s 1 o = 0 then 1 else 0) = 0
  · rw [if_pos g, if_pos g]; exact e
  · rw [if_neg g, if_neg g]; exact e.sS _ _ _
theorem t_rev43 (ok : mOk h m) {n F c o x : Nat} (hn : n < 1200) (hc : c < 1200) (hx : x ≤ 50) (ho : o < 50) : ∀ (G y v : Nat) (s σ : mS) (v' : Nat) (s' : mS), mRevOk n F c G y v s v' s' → mEq s σ → s 7 0 = nI x → ∃ σ', B_M_revoke_43 z m (nI c) (nI o) (nI v) (nI y) (mPut h m σ) = some (.inl (some (.int (nI v'))), mPut h m (mRevE σ' x o)) ∧ mEq s' σ' ∧ σ' 0 0 = σ 0 0
  | 0, _, _, _, _, _, _, H, _, _ => H.elim
  | G + 1, y, v, s, σ, v', s', H, e, h7 => by
    rcases H with ⟨rfl, rfl, rfl⟩ | ⟨hy, hyl, k1, s1, hd, P1, h13, H⟩
    · refine ⟨σ, t_rev43e ok ?_ hx ho _, e, rfl⟩
      rw [e 7 (by decide)]
      exact h7
    · obtain ⟨σ1, r1, e1, k⟩ := w_drop (z := z) ok e hd
      have h71 : s1 7 0 = nI x := by
        rw [mDropL_ne (by decide) 0 F 0 hd]
        exact h7
      obtain ⟨σ', r, e', c'⟩ := t_rev43 ok hn hc hx ho G _ (v + k1) s1 σ1 v' s' H e1 h71
      refine ⟨σ', E_M_revoke_43 z m _ _ _ _ _ _ ?_, e', c'.trans (k 0 0 (Or.inl rfl))⟩
      have y1 := t_M_youngest (z := z) (s := σ1) (top := c) ok (mPar_congr (e1 11 (by decide)) P1) hc (by rw [e1 13 (by decide)]; exact h13) hn
      rw [mYoung_congr (e1 11 (by decide)) (e1 12 (by decide))] at y1
      simp only [D_M_revoke_43, xisO_m ok, r1, xclI_some, Option.bind_some, mr_lives ok, ma_lives ok hc, e1 12 (by decide), y1, nI_add, ic_0n]
      rw [if_neg (nI_nle hy (by omega))]
      by_cases g : s1 12 c = 0
      · rw [if_pos g] at r
        rw [if_pos g]
        exact t_rev77 r
      · rw [if_neg g] at r
        rw [if_neg g]
        exact t_rev77 r
end NC
