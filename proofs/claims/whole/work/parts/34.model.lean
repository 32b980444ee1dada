/-! The reference: what came of a capability; who is aborted. -/
section MD
variable {z : xzs} {h : xH} {m : Nat} {s : mS}
/-- a capability's parent is older, or none -/
def mPar (s : mS) : Prop := ∀ c, c < 1200 → isN (s 11 c) 1200 ∧ (vN (s 11 c) < c ∨ vN (s 11 c) = 0)
def mUp (s : mS) (top : Nat) : Nat → Nat → Bool
  | 0, _ => false
  | n + 1, k => if k = 0 ∨ k = top then decide (k = top) else mUp s top n (vN (s 11 k))
def mCame (s : mS) (c top : Nat) : Bool := mUp s top 1200 (vN (s 11 c))
theorem t_cameOf26 {k top : Nat} (hk : k < 1200) (htp : top < 1200) (H : xH) : B_M_cameOf_26 z (nI top) (nI k) H = some (.inl (some (.int (xb (k = top)))), H) := by
  refine E_M_cameOf_26 z _ _ _ _ ?_
  unfold D_M_cameOf_26
  by_cases h1 : k = top
  · rw [if_neg (fun q => q (by rw [h1])), xb_same h1]
    refine E_M_cameOf_36 z _ _ _ ?_
    unfold D_M_cameOf_36
    rw [ic_1, if_pos (Or.inr rfl)]
  · rw [if_pos (fun q => h1 ((nI_eq (by omega) (by omega)).mp q)), xb_not h1]
    refine E_M_cameOf_36 z _ _ _ ?_
    unfold D_M_cameOf_36
    rw [ic_0, if_pos (Or.inl rfl)]
theorem t_cameOf7 (ok : mOk h m) (P : mPar s) {top : Nat} (htp : top < 1200) : ∀ (n k : Nat), k < n → k < 1200 → B_M_cameOf_7 z m (nI top) (nI k) (mPut h m s) = some (.inl (some (.int (xb (mUp s top n k = true)))), mPut h m s)
  | 0, k, hk, _ => by omega
  | n + 1, k, hk, hl => by
    refine E_M_cameOf_7 z m _ _ _ _ ?_
    unfold D_M_cameOf_7 mUp
    by_cases h0 : k = 0
    · rw [if_pos (by rw [h0]; decide), t_cameOf26 hl htp, if_pos (Or.inl h0)]
      simp only [decide_eq_true_eq]
    · rw [if_neg (nI_nle (by omega) (by omega))]
      by_cases h1 : k = top
      · rw [if_pos (by rw [h1]), t_cameOf26 hl htp, if_pos (Or.inr h1)]
        simp only [decide_eq_true_eq]
      · rw [if_neg (fun q => h1 ((nI_eq (by omega) (by omega)).mp q)), if_neg (by rintro (q | q); exact h0 q; exact h1 q)]
        obtain ⟨⟨p1, p2⟩, p3⟩ := P k hl
        simp only [mr_parent ok, ma_parent ok hl, Option.bind_some]
        rw [p1]
        have e : vN (nI (vN (s 11 k))) = vN (s 11 k) := vN_nI (by omega)
        rw [e]
        exact t_cameOf7 ok P htp n (vN (s 11 k)) (by omega) p2
theorem t_M_cameOf (ok : mOk h m) (P : mPar s) {c top : Nat} (hc : c < 1200) (htp : top < 1200) : f_M_cameOf z [.ref m, .int (nI c), .int (nI top)] (mPut h m s) = some (.inl (some (.int (xb (mCame s c top = true)))), mPut h m s) := by
  refine E_M_cameOf z m _ _ _ _ ?_
  obtain ⟨⟨p1, p2⟩, p3⟩ := P c hc
  simp only [D_M_cameOf_0, mr_parent ok, ma_parent ok hc, Option.bind_some]
  unfold mCame
  rw [p1]
  have e : vN (nI (vN (s 11 c))) = vN (s 11 c) := vN_nI (by omega)
  rw [e]
  exact t_cameOf7 ok P htp 1200 _ p2 p2
-- youngest
def mYoung (s : mS) (top : Nat) : Nat → Nat
  | 0 => 0
  | c + 1 => if ¬ s 12 (c + 1) = 0 ∧ mCame s (c + 1) top = true then c + 1 else mYoung s top c
theorem t_young5 (ok : mOk h m) (P : mPar s) {top : Nat} (htp : top < 1200) : ∀ c : Nat, c < 1200 → B_M_youngest_5 z m (nI top) (nI c) (mPut h m s) = some (.inl (some (.int (nI (mYoung s top c)))), mPut h m s)
  | 0, _ => by
    refine E_M_youngest_5 z m _ _ _ _ ?_
    unfold D_M_youngest_5
    rw [if_pos (by decide), ic_0n]
    rfl
  | c + 1, hc => by
    refine E_M_youngest_5 z m _ _ _ _ ?_
    simp only [D_M_youngest_5, mr_lives ok, ma_lives ok hc, xisO_m ok, t_M_cameOf ok P hc htp, xclI_some, Option.bind_some]
    rw [if_neg (nI_nle (by omega) (by omega))]
    unfold mYoung
    have ih : B_M_youngest_29 z m (nI top) (nI (c + 1)) (mPut h m s) = some (.inl (some (.int (nI (mYoung s top c)))), mPut h m s) := by
      refine E_M_youngest_29 z m _ _ _ _ ?_
      unfold D_M_youngest_29
      rw [ic_m1, pk_m1]
      exact t_young5 ok P htp c (by omega)
    by_cases h1 : s 12 (c + 1) = 0
    · rw [if_pos h1, if_neg (fun q => q.1 h1)]
      exact ih
    · rw [if_neg h1]
      by_cases h2 : mCame s (c + 1) top = true
      · rw [xb_same h2, if_neg (by decide), if_pos ⟨h1, h2⟩]
      · rw [xb_not h2, if_pos rfl, if_neg (fun q => h2 q.2)]
        exact ih
theorem t_M_youngest (ok : mOk h m) (P : mPar s) {top n : Nat} (htp : top < 1200) (hm : s 13 0 = nI n) (hn : n < 1200) : f_M_youngest z [.ref m, .int (nI top)] (mPut h m s) = some (.inl (some (.int (nI (mYoung s top n)))), mPut h m s) := by
  refine E_M_youngest z m _ _ _ ?_
  simp only [D_M_youngest_0, mr_made ok, hm, Option.bind_some]
  exact t_young5 ok P htp n hn
theorem mYoung_le (s : mS) (top : Nat) : ∀ c, mYoung s top c ≤ c
  | 0 => Nat.le_refl _
  | c + 1 => by
    unfold mYoung
    split
    · exact Nat.le_refl _
    · exact Nat.le_succ_of_le (mYoung_le s top c)
-- abort
def mW (s : mS) (o : Int32) (t : Nat) : Prop := (s 15 t = 1 ∨ s 15 t = nI 2 ∨ s 15 t = nI 4 ∨ s 15 t = nI 5) ∧ s 22 t = o
theorem mWtStep_or {o x y : Int32} (b t : Nat) : mWtStep s o x y b t = b ∨ (mWtStep s o x y b t = t ∧ (s 15 t = x ∨ s 15 t = y) ∧ s 22 t = o) := by
  unfold mWtStep
  split
  · rename_i q; exact Or.inr ⟨rfl, q.1⟩
  · exact Or.inl rfl
theorem mWaiting_or (s : mS) (o x y : Int32) : mWaiting s o x y = 0 ∨ (0 < mWaiting s o x y ∧ (s 15 (mWaiting s o x y) = x ∨ s 15 (mWaiting s o x y) = y) ∧ s 22 (mWaiting s o x y) = o) := by
  unfold mWaiting
  rcases mWtStep_or (s := s) (o := o) (x := x) (y := y) (mWtStep s o x y (mWtStep s o x y 0 1) 2) 3 with e | ⟨e, q⟩
  · rw [e]
    rcases mWtStep_or (s := s) (o := o) (x := x) (y := y) (mWtStep s o x y 0 1) 2 with e | ⟨e, q⟩
    · rw [e]
      rcases mWtStep_or (s := s) (o := o) (x := x) (y := y) 0 1 with e | ⟨e, q⟩
      · exact Or.inl e
      · rw [e]; exact Or.inr ⟨by decide, q⟩
    · rw [e]; exact Or.inr ⟨by decide, q⟩
  · rw [e]; exact Or.inr ⟨by decide, q⟩
def mFirstW (s : mS) (o : Int32) : Nat := if mWaiting s o 1 (nI 2) = 0 then mWaiting s o (nI 4) (nI 5) else mWaiting s o 1 (nI 2)
theorem mFirstW_lt (s : mS) (o : Int32) : mFirstW s o < 4 := by
  unfold mFirstW
  split
  · exact mWaiting_lt s o _ _
  · exact mWaiting_lt s o _ _
theorem mFirstW_or (s : mS) (o : Int32) : mFirstW s o = 0 ∨ (0 < mFirstW s o ∧ mW s o (mFirstW s o)) := by
  unfold mFirstW
  split
  · rcases mWaiting_or s o (nI 4) (nI 5) with e | ⟨e, q1, q2⟩
    · exact Or.inl e
    · exact Or.inr ⟨e, Or.inr (Or.inr q1), q2⟩
  · rename_i hn
    rcases mWaiting_or s o 1 (nI 2) with e | ⟨e, q1, q2⟩
    · exact absurd e hn
    · exact Or.inr ⟨e, q1.elim Or.inl (fun w => Or.inr (Or.inl w)), q2⟩
def mAb1 (s : mS) (t : Nat) : mS := mReady (sS s 16 t 1) t
def mAbort (o : Int32) : Nat → mS → mS
  | 0, s => s
  | n + 1, s => if mFirstW s o = 0 then s else mAbort o n (mAb1 s (mFirstW s o))
end MD
