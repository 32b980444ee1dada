/-! THE REFERENCE, method by method: what it does to its state. -/
theorem sS_app (s : mS) (f j : Nat) (v : Int32) (f' j' : Nat) : sS s f j v f' j' = if f' = f ∧ j' = j then v else s f' j' := rfl
theorem ic_m1 : Int32.ofInt (-1) = -1 := by decide
theorem ic_0 : Int32.ofInt 0 = 0 := by decide
theorem ic_1 : Int32.ofInt 1 = 1 := by decide
theorem ic_2 : Int32.ofInt 2 = nI 2 := by decide
theorem ic_3 : Int32.ofInt 3 = nI 3 := by decide
theorem ic_4 : Int32.ofInt 4 = nI 4 := by decide
theorem ic_5 : Int32.ofInt 5 = nI 5 := by decide
theorem nar_b1 : vp_nar .boolean 1 = 1 := by decide
theorem nar_b0 : vp_nar .boolean 0 = 0 := by decide
theorem nI_e0 {n : Nat} (hn : n < 2 ^ 31) : (nI n = 0) ↔ n = 0 := by
  rw [← nI_0]
  exact nI_eq hn (by decide)
section MA
variable {z : xzs} {h : xH} {m : Nat} {s : mS}
-- within
theorem t_M_within (x a b : Int32) (H : xH) : f_M_within z [.int x, .int a, .int b] H = some (.inl (some (.int (if x < a ∨ b < x then 0 else 1))), H) := by
  refine E_M_within z x a b H _ ?_
  unfold D_M_within_0
  by_cases h1 : x < a
  · rw [if_pos h1, if_pos (Or.inl h1)]
    refine E_M_within_14 z H _ ?_
    unfold D_M_within_14
    refine E_M_within_15 z _ H _ ?_
    unfold D_M_within_15
    rw [ic_0, if_pos (Or.inl rfl)]
  · rw [if_neg h1]
    by_cases h2 : b < x
    · rw [if_pos h2, if_pos (Or.inr h2)]
      refine E_M_within_14 z H _ ?_
      unfold D_M_within_14
      refine E_M_within_15 z _ H _ ?_
      unfold D_M_within_15
      rw [ic_0, if_pos (Or.inl rfl)]
    · rw [if_neg h2, if_neg (by rintro (q | q); exact h1 q; exact h2 q)]
      refine E_M_within_15 z _ H _ ?_
      unfold D_M_within_15
      rw [ic_1, if_pos (Or.inr rfl)]
-- fail, thrown
theorem t_M_fail (ok : mOk h m) (c : Int32) : f_M_fail z [.ref m, .int c] (mPut h m s) = some (.inl (some (.int 0)), mPut h m (sS s 0 0 c)) := by
  refine E_M_fail z m c _ _ ?_
  simp only [D_M_fail_0, mw_code ok, Option.bind_some, ic_0]
theorem t_M_thrown (ok : mOk h m) : f_M_thrown z [.ref m] (mPut h m s) = some (.inl (some (.int (s 0 0))), mPut h m s) := by
  refine E_M_thrown z m _ _ ?_
  simp only [D_M_thrown_0, mr_code ok, Option.bind_some]
-- put
def mPutC (s : mS) (c sl : Nat) (o r b p : Int32) : mS := sS (sS (sS (sS (sS (sS (sS s 13 0 (nI (c + 1))) 8 (c + 1) o) 9 (c + 1) r) 10 (c + 1) b) 11 (c + 1) p) 12 (c + 1) 1) 14 sl (nI (c + 1))
theorem t_M_put (ok : mOk h m) {c sl : Nat} (hc : s 13 0 = nI c) (hl : c + 1 < 1200) (hs : sl < 400) (o r b p : Int32) :
    f_M_put z [.ref m, .int (nI sl), .int o, .int r, .int b, .int p] (mPut h m s) = some (.inl (some (.int r)), mPut h m (mPutC s c sl o r b p)) := by
  refine E_M_put z m _ _ _ _ _ _ _ ?_
  simp only [D_M_put_0, mr_made ok, mw_made ok, mr_of ok, mw_of ok hl, mr_rights ok, mw_rights ok hl, mr_badge ok, mw_badge ok hl, mr_parent ok, mw_parent ok hl, mr_lives ok, mw_lives ok hl, mr_slot ok, mw_slot ok hs, Option.bind_some, ic_1, nar_b1, hc, nI_1, sS_app, and_self, and_true, true_and, false_and, ↓reduceIte, Nat.reduceEqDiff]
  rfl
-- ready
def mReady (s : mS) (t : Nat) : mS := sS (sS (sS s 31 0 (s 31 0 + 1)) 21 t (s 31 0 + 1)) 15 t 0
theorem t_M_ready (ok : mOk h m) {t : Nat} (ht : t < 4) : f_M_ready z [.ref m, .int (nI t)] (mPut h m s) = some (.inl none, mPut h m (mReady s t)) := by
  refine E_M_ready z m _ _ _ ?_
  simp only [D_M_ready_0, mr_clock ok, mw_clock ok, mr_inLine ok, mw_inLine ok ht, mr_state ok, mw_state ok ht, Option.bind_some, ic_1, ic_0, sS_app]
  rfl
-- comes
def mComes (s : mS) (t : Nat) (w b a : Int32) : mS := sS (sS (sS (sS s 16 t 0) 17 t w) 18 t b) 19 t a
theorem t_M_comes (ok : mOk h m) {t : Nat} (ht : t < 4) (w b a : Int32) : f_M_comes z [.ref m, .int (nI t), .int w, .int b, .int a] (mPut h m s) = some (.inl none, mPut h m (mComes s t w b a)) := by
  refine E_M_comes z m _ _ _ _ _ _ ?_
  simp only [D_M_comes_0, mr_outcome ok, mw_outcome ok ht, mr_word ok, mw_word ok ht, mr_badgeCame ok, mw_badgeCame ok ht, mr_address ok, mw_address ok ht, Option.bind_some, ic_0]
  rfl
-- waits
def mWaits (s : mS) (t : Nat) (st o : Int32) : mS := sS (sS (sS (sS s 15 t st) 22 t o) 31 0 (s 31 0 + 1)) 23 t (s 31 0 + 1)
theorem t_M_waits (ok : mOk h m) {t : Nat} (ht : t < 4) (st o : Int32) : f_M_waits z [.ref m, .int (nI t), .int st, .int o] (mPut h m s) = some (.inl none, mPut h m (mWaits s t st o)) := by
  refine E_M_waits z m _ _ _ _ _ ?_
  simp only [D_M_waits_0, mr_state ok, mw_state ok ht, mr_waitsAt ok, mw_waitsAt ok ht, mr_clock ok, mw_clock ok, mr_since ok, mw_since ok ht, Option.bind_some, ic_1, sS_app]
  rfl
-- now
def mNowStep (s : mS) (b t : Nat) : Nat := if s 15 t = 0 ∧ (b = 0 ∨ s 20 b < s 20 t ∨ (s 20 t = s 20 b ∧ s 21 t < s 21 b)) then t else b
def mNow (s : mS) : Nat := mNowStep s (mNowStep s (mNowStep s 0 1) 2) 3
theorem t_now82 (ok : mOk h m) {b t : Nat} {r : xR} (hn : B_M_now_4 z m (nI b) (nI (t + 1)) (mPut h m s) = some r) : B_M_now_82 z m (nI b) (nI t) (mPut h m s) = some r := by
  refine E_M_now_82 z m _ _ _ _ ?_
  simp only [D_M_now_82, ic_1, nI_1]
  exact hn
theorem t_now70 (ok : mOk h m) {b t : Nat} {r : xR} (hn : B_M_now_4 z m (nI t) (nI (t + 1)) (mPut h m s) = some r) : B_M_now_70 z m (nI b) (nI t) (mPut h m s) = some r := by
  refine E_M_now_70 z m _ _ _ _ ?_
  unfold D_M_now_70
  refine E_M_now_75 z m _ _ _ _ _ ?_
  unfold D_M_now_75
  rw [ic_1, if_neg (by decide)]
  exact t_now82 ok hn
theorem t_now74 (ok : mOk h m) {b t : Nat} {r : xR} (hn : B_M_now_4 z m (nI b) (nI (t + 1)) (mPut h m s) = some r) : B_M_now_74 z m (nI b) (nI t) (mPut h m s) = some r := by
  refine E_M_now_74 z m _ _ _ _ ?_
  unfold D_M_now_74
  refine E_M_now_75 z m _ _ _ _ _ ?_
  unfold D_M_now_75
  rw [ic_0, if_pos rfl]
  exact t_now82 ok hn
theorem t_now_step (ok : mOk h m) {b t : Nat} {r : xR} (hb : b < 4) (ht : t < 4) (hn : B_M_now_4 z m (nI (mNowStep s b t)) (nI (t + 1)) (mPut h m s) = some r) : B_M_now_4 z m (nI b) (nI t) (mPut h m s) = some r := by
  refine E_M_now_4 z m _ _ _ _ ?_
  unfold D_M_now_4
  rw [ic_4, if_neg (nI_ge ht (by decide))]
  simp only [mr_state ok, ma_state ok ht, mr_priority ok, ma_priority ok ht, ma_priority ok hb, mr_inLine ok, ma_inLine ok ht, ma_inLine ok hb, Option.bind_some]
  unfold mNowStep at hn
  by_cases h1 : s 15 t = 0
  · rw [if_pos h1]
    by_cases h2 : b = 0
    · rw [if_pos ((nI_e0 (by omega)).mpr h2)]
      rw [if_pos ⟨h1, Or.inl h2⟩] at hn
      exact t_now70 ok hn
    · rw [if_neg (fun q => h2 ((nI_e0 (by omega)).mp q))]
      by_cases h3 : s 20 b < s 20 t
      · rw [if_pos h3]
        rw [if_pos ⟨h1, Or.inr (Or.inl h3)⟩] at hn
        exact t_now70 ok hn
      · rw [if_neg h3]
        by_cases h4 : s 20 t = s 20 b
        · rw [if_neg (fun q => q h4)]
          by_cases h5 : s 21 b ≤ s 21 t
          · rw [if_pos h5]
            rw [if_neg (by rintro ⟨-, q | q | ⟨-, q⟩⟩; exact h2 q; exact h3 q; exact k2_nle q h5)] at hn
            exact t_now74 ok hn
          · rw [if_neg h5]
            rw [if_pos ⟨h1, Or.inr (Or.inr ⟨h4, k2_lt h5⟩)⟩] at hn
            exact t_now70 ok hn
        · rw [if_pos h4]
          rw [if_neg (by rintro ⟨-, q | q | ⟨q, -⟩⟩; exact h2 q; exact h3 q; exact h4 q)] at hn
          exact t_now74 ok hn
  · rw [if_neg h1]
    rw [if_neg (fun q => h1 q.1)] at hn
    exact t_now82 ok hn
theorem mNowStep_lt {b t : Nat} (hb : b < 4) (ht : t < 4) : mNowStep s b t < 4 := by
  unfold mNowStep
  split
  · exact ht
  · exact hb
theorem mNow_lt (s : mS) : mNow s < 4 := mNowStep_lt (mNowStep_lt (mNowStep_lt (by decide) (by decide)) (by decide)) (by decide)
theorem t_M_now (ok : mOk h m) : f_M_now z [.ref m] (mPut h m s) = some (.inl (some (.int (nI (mNow s)))), mPut h m s) := by
  refine E_M_now z m _ _ ?_
  unfold D_M_now_0
  have e0 : Int32.ofInt 0 = nI 0 := by decide
  have e1 : Int32.ofInt 1 = nI 1 := by decide
  rw [e0, e1]
  refine t_now_step ok (by decide) (by decide) (t_now_step ok (mNowStep_lt (by decide) (by decide)) (by decide) (t_now_step ok (mNowStep_lt (mNowStep_lt (by decide) (by decide)) (by decide)) (by decide) ?_))
  refine E_M_now_4 z m _ _ _ _ ?_
  unfold D_M_now_4
  rw [ic_4, if_pos (nI_le (by decide) (by decide))]
  rfl
end MA
