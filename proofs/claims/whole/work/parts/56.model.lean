/-! The reference: revoke. -/
section NB
variable {z : xzs} {h : xH} {m : Nat} {s : mS}
theorem t_rev19 (H : xH) : B_M_revoke_19 z H = some (.inl (some (.int 0)), H) := by
  refine E_M_revoke_19 z H _ ?_
  unfold D_M_revoke_19
  rw [ic_0]
theorem t_rev153 (x : Int32) (H : xH) : B_M_revoke_153 z x H = some (.inl (some (.int x)), H) := E_M_revoke_153 z x H _ rfl
/-- no object is left that was made of o -/
def mFreeO (s : mS) (o : Nat) : Nat → Int32 → Int32
  | 0, x => x
  | k + 1, x => if ¬ s 6 (10 + k) = 0 ∧ s 5 (10 + k) = nI o then 0 else mFreeO s o k x
def mRevE (s : mS) (x o : Nat) : mS := if mFreeO s o (x - 10) (if s 1 o = 0 then 1 else 0) = 0 then s else sS s 3 o 0
theorem t_rev135 {o v x : Int32} {k : Nat} {r : xR} {H : xH} (hn : B_M_revoke_102 z m o v x (nI (k + 1)) H = some r) : B_M_revoke_135 z m o v x (nI k) H = some r := by
  refine E_M_revoke_135 z m _ _ _ _ _ _ ?_
  unfold D_M_revoke_135
  rw [ic_1n, nI_add]
  exact hn
theorem t_rev102 (ok : mOk h m) {x o : Nat} (h7 : s 7 0 = nI x) (hx : x ≤ 50) (ho : o < 50) (v g : Int32) : ∀ (j k : Nat), k + j = x - 10 → B_M_revoke_102 z m (nI o) v (mFreeO s o k g) (nI (10 + k)) (mPut h m s) = some (.inl (some (.int v)), mPut h m (if mFreeO s o (x - 10) g = 0 then s else sS s 3 o 0))
  | 0, k, e => by
    obtain rfl : k = x - 10 := by omega
    refine E_M_revoke_102 z m _ _ _ _ _ _ ?_
    simp only [D_M_revoke_102, mr_objects ok, h7, Option.bind_some, mr_used ok, mw_used ok ho, ic_0, t_rev153]
    rw [if_pos (nI_le (by omega) (by omega))]
    by_cases q : mFreeO s o (x - 10) g = 0
    · rw [if_pos q, if_pos q]
    · rw [if_neg q, if_neg q]
  | j + 1, k, e => by
    have hk : 10 + k < 50 := by omega
    refine E_M_revoke_102 z m _ _ _ _ _ _ ?_
    simp only [D_M_revoke_102, mr_objects ok, h7, Option.bind_some, mr_there ok, ma_there ok hk, mr_origin ok, ma_origin ok hk, ic_0]
    rw [if_neg (nI_ge (by omega) (by omega))]
    have ih := t_rev102 ok h7 hx ho v g j (k + 1) (by omega)
    rw [show mFreeO s o (k + 1) g = if ¬ s 6 (10 + k) = 0 ∧ s 5 (10 + k) = nI o then 0 else mFreeO s o k g from rfl] at ih
    by_cases g1 : s 6 (10 + k) = 0
    · rw [if_neg (show ¬ (¬ s 6 (10 + k) = 0 ∧ s 5 (10 + k) = nI o) from fun w => w.1 g1)] at ih
      rw [if_pos g1]
      exact t_rev135 ih
    · rw [if_neg g1]
      by_cases g2 : s 5 (10 + k) = nI o
      · rw [if_pos (show ¬ s 6 (10 + k) = 0 ∧ s 5 (10 + k) = nI o from ⟨g1, g2⟩)] at ih
        rw [if_neg (fun w => w g2)]
        exact t_rev135 ih
      · rw [if_neg (show ¬ (¬ s 6 (10 + k) = 0 ∧ s 5 (10 + k) = nI o) from fun w => g2 w.2)] at ih
        rw [if_pos g2]
        exact t_rev135 ih
theorem t_rev96 (ok : mOk h m) {x o : Nat} (h7 : s 7 0 = nI x) (hx : x ≤ 50) (ho : o < 50) (v g : Int32) : B_M_revoke_96 z m (nI o) v g (mPut h m s) = some (.inl (some (.int v)), mPut h m (if mFreeO s o (x - 10) g = 0 then s else sS s 3 o 0)) := by
  refine E_M_revoke_96 z m _ _ _ _ _ ?_
  unfold D_M_revoke_96
  rw [bc_10]
  exact t_rev102 ok h7 hx ho v g (x - 10) 0 (by omega)
theorem t_rev43e (ok : mOk h m) {x o : Nat} {c : Int32} (h7 : s 7 0 = nI x) (hx : x ≤ 50) (ho : o < 50) (v : Int32) : B_M_revoke_43 z m c (nI o) v (nI 0) (mPut h m s) = some (.inl (some (.int v)), mPut h m (mRevE s x o)) := by
  refine E_M_revoke_43 z m _ _ _ _ _ _ ?_
  simp only [D_M_revoke_43, mr_kind ok, ma_kind ok ho, Option.bind_some, ic_0, ic_1, t_rev96 ok h7 hx ho]
  rw [if_pos (by decide)]
  unfold mRevE
  by_cases g : s 1 o = 0
  · rw [if_neg (fun w => w g), if_pos g]
  · rw [if_pos g, if_neg g]
end NB
