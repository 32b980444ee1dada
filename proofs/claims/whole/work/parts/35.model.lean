/-! The reference: abort; the loops of drop. -/
section ME
variable {z : xzs} {h : xH} {m : Nat} {s : mS}
def mWb (s : mS) (o : Int32) (t : Nat) : Nat := if (s 15 t = 1 ∨ s 15 t = nI 2 ∨ s 15 t = nI 4 ∨ s 15 t = nI 5) ∧ s 22 t = o then 1 else 0
def mWc (s : mS) (o : Int32) : Nat := mWb s o 1 + mWb s o 2 + mWb s o 3
theorem mAb1_15 (s : mS) (t u : Nat) : mAb1 s t 15 u = if u = t then 0 else s 15 u := by
  unfold mAb1 mReady
  simp only [sS_app, true_and, Nat.reduceEqDiff, false_and, ↓reduceIte]
theorem mAb1_22 (s : mS) (t u : Nat) : mAb1 s t 22 u = s 22 u := by
  unfold mAb1 mReady
  simp only [sS_app, Nat.reduceEqDiff, false_and, ↓reduceIte]
theorem mWb_ab (s : mS) (o : Int32) (t u : Nat) : mWb (mAb1 s t) o u = if u = t then 0 else mWb s o u := by
  unfold mWb
  rw [mAb1_15, mAb1_22]
  by_cases hu : u = t
  · rw [if_pos hu, if_pos hu, if_neg (by rintro ⟨q | q | q | q, -⟩ <;> exact absurd q (by decide))]
  · rw [if_neg hu, if_neg hu]
theorem mWc_ab {o : Int32} {t : Nat} (ht : 0 < t) (ht4 : t < 4) (hw : mW s o t) : mWc (mAb1 s t) o + 1 = mWc s o := by
  have h1 : mWb s o t = 1 := if_pos hw
  unfold mWc
  rw [mWb_ab, mWb_ab, mWb_ab]
  rcases (show t = 1 ∨ t = 2 ∨ t = 3 by omega) with rfl | rfl | rfl <;> simp <;> omega
theorem t_abort20 (ok : mOk h m) (o : Int32) : ∀ (n : Nat) (s : mS), mWc s o < n → B_M_abort_20 z m o (nI (mFirstW s o)) (mPut h m s) = some (.inl none, mPut h m (mAbort o n s))
  | 0, s, hn => by omega
  | n + 1, s, hn => by
    refine E_M_abort_20 z m _ _ _ _ ?_
    have hlt := mFirstW_lt s o
    unfold mAbort
    rcases mFirstW_or s o with e | ⟨e, hw⟩
    · unfold D_M_abort_20
      rw [e, if_pos (by decide), if_pos rfl]
    · rw [if_neg (by omega)]
      have hc := mWc_ab e hlt hw
      have ih := t_abort20 ok o n (mAb1 s (mFirstW s o)) (by omega)
      simp only [D_M_abort_20, mr_outcome ok, mw_outcome ok hlt, xisO_m ok, t_M_ready ok hlt, xclV_some, t_M_waiting ok, xclI_some, Option.bind_some, ic_1, ic_2, ic_4, ic_5]
      rw [if_neg (nI_nle e (by omega))]
      have es : mReady (sS s 16 (mFirstW s o) 1) (mFirstW s o) = mAb1 s (mFirstW s o) := rfl
      rw [es]
      have hwl := mWaiting_lt (mAb1 s (mFirstW s o)) o 1 (nI 2)
      by_cases h1 : mWaiting (mAb1 s (mFirstW s o)) o 1 (nI 2) = 0
      · rw [if_neg (fun q => q ((nI_e0 (by omega)).mpr h1))]
        have ef : mFirstW (mAb1 s (mFirstW s o)) o = mWaiting (mAb1 s (mFirstW s o)) o (nI 4) (nI 5) := if_pos h1
        rw [ef] at ih
        exact ih
      · rw [if_pos (fun q => h1 ((nI_e0 (by omega)).mp q))]
        have ef : mFirstW (mAb1 s (mFirstW s o)) o = mWaiting (mAb1 s (mFirstW s o)) o 1 (nI 2) := if_neg h1
        rw [ef] at ih
        exact ih
theorem mWb_le (s : mS) (o : Int32) (t : Nat) : mWb s o t ≤ 1 := by
  unfold mWb
  split <;> omega
theorem t_M_abort (ok : mOk h m) (o : Int32) : f_M_abort z [.ref m, .int o] (mPut h m s) = some (.inl none, mPut h m (mAbort o 4 s)) := by
  refine E_M_abort z m _ _ _ ?_
  have ih := t_abort20 (z := z) ok o 4 s (by have := mWb_le s o 1; have := mWb_le s o 2; have := mWb_le s o 3; unfold mWc; omega)
  simp only [D_M_abort_0, xisO_m ok, t_M_waiting ok, xclI_some, Option.bind_some, ic_1, ic_2, ic_4, ic_5]
  have hwl := mWaiting_lt s o 1 (nI 2)
  by_cases h1 : mWaiting s o 1 (nI 2) = 0
  · rw [if_neg (fun q => q ((nI_e0 (by omega)).mpr h1))]
    have ef : mFirstW s o = mWaiting s o (nI 4) (nI 5) := if_pos h1
    rw [ef] at ih
    exact ih
  · rw [if_pos (fun q => h1 ((nI_e0 (by omega)).mp q))]
    have ef : mFirstW s o = mWaiting s o 1 (nI 2) := if_neg h1
    rw [ef] at ih
    exact ih
-- drop: what was derived from it hangs on what it was derived from itself
def mRep (s : mS) (c n : Nat) : mS := fun f j => if f = 11 ∧ (1 ≤ j ∧ j ≤ n) ∧ ¬ s 12 j = 0 ∧ s 11 j = nI c then s 11 c else s f j
theorem mRep_ne (s : mS) (c n : Nat) {f : Nat} (hf : f ≠ 11) (j : Nat) : mRep s c n f j = s f j := by
  unfold mRep
  rw [if_neg (fun q => hf q.1)]
theorem mRep_11 (s : mS) (c n j : Nat) : mRep s c n 11 j = if (1 ≤ j ∧ j ≤ n) ∧ ¬ s 12 j = 0 ∧ s 11 j = nI c then s 11 c else s 11 j := by
  unfold mRep
  simp only [true_and]
theorem mRep_c (s : mS) {c : Nat} (n : Nat) (hc : s 12 c = 0) : mRep s c n 11 c = s 11 c := by
  rw [mRep_11, if_neg (fun q => q.2.1 hc)]
theorem mRep_step (s : mS) {c : Nat} (n : Nat) (hc : s 12 c = 0) : mRep s c (n + 1) = if ¬ s 12 (n + 1) = 0 ∧ s 11 (n + 1) = nI c then sS (mRep s c n) 11 (n + 1) (s 11 c) else mRep s c n := by
  funext f j
  by_cases hf : f = 11
  · subst hf
    split
    · rename_i q
      rw [sS_app, mRep_11, mRep_11]
      by_cases hj : j = n + 1
      · subst hj
        rw [if_pos ⟨⟨by omega, by omega⟩, q⟩, if_pos ⟨rfl, rfl⟩]
      · by_cases hw : (1 ≤ j ∧ j ≤ n) ∧ ¬ s 12 j = 0 ∧ s 11 j = nI c
        · rw [if_pos ⟨⟨hw.1.1, by omega⟩, hw.2⟩, if_neg (fun w : 11 = 11 ∧ j = n + 1 => hj w.2), if_pos hw]
        · rw [if_neg (fun w => hw ⟨⟨w.1.1, by omega⟩, w.2⟩), if_neg (fun w : 11 = 11 ∧ j = n + 1 => hj w.2), if_neg hw]
    · rename_i q
      rw [mRep_11, mRep_11]
      by_cases hw : (1 ≤ j ∧ j ≤ n) ∧ ¬ s 12 j = 0 ∧ s 11 j = nI c
      · rw [if_pos ⟨⟨hw.1.1, by omega⟩, hw.2⟩, if_pos hw]
      · rw [if_neg (fun w => hw ⟨⟨w.1.1, by
          rcases Nat.lt_or_ge j (n + 1) with l | l
          · omega
          · exact absurd (by have e : n + 1 = j := by omega
                             rw [e]; exact w.2) q⟩, w.2⟩), if_neg hw]
  · rw [mRep_ne s c (n + 1) hf]
    split
    · rw [sS_app, if_neg (fun w => hf w.1), mRep_ne s c n hf]
    · rw [mRep_ne s c n hf]
end ME
