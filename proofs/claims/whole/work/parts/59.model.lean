/-! The reference: its constructor, the loop. -/
section NE
variable {z : xzs} {h : xH} {m : Nat} {s : mS}
def mNewA (s : mS) (k : Nat) : mS := sS (sS (sS (sS (sS (sS s 1 (1 + k) (nI 3)) 6 (1 + k) 1) 2 (4 + k) (nI 16)) 6 (4 + k) 1) 20 k 1) 21 k (nI k)
/-- the thread k is set up; n capabilities were made -/
def mNewS (s : mS) (n k : Nat) : mS := mPutC (mPutC (mPutC (mPutC (mNewA s k) n (8 * (1 + k)) 0 (nI 2) (nI k) 0) (n + 1) (8 * (1 + k) + 1) (nI (4 + k)) (nI 7) 0 0) (n + 2) (8 * (1 + k) + 2) (nI 8) (nI 7) 0 0) (n + 3) (8 * (1 + k) + 3) (nI 9) (nI 7) 0 0
theorem ic_4n : Int32.ofInt 4 = nI 4 := by decide
theorem ic_2n : Int32.ofInt 2 = nI 2 := by decide
theorem ic_3n : Int32.ofInt 3 = nI 3 := by decide
theorem bc_9 : (Int8.ofInt 9).toInt32 = nI 9 := by decide
theorem mPutC_13 (s : mS) (c sl : Nat) (o r b p : Int32) : mPutC s c sl o r b p 13 0 = nI (c + 1) := by
  unfold mPutC
  simp only [sS_app, Nat.reduceEqDiff, false_and, and_self, ↓reduceIte]
theorem t_new_step (ok : mOk h m) {n k : Nat} {r : xR} (hm : s 13 0 = nI n) (hn : n + 4 < 1200) (hk : k < 4) (hend : B_M_new_323 z m (nI (k + 1)) (mPut h m (mNewS s n k)) = some r) : B_M_new_323 z m (nI k) (mPut h m s) = some r := by
  refine E_M_new_323 z m _ _ _ ?_
  have e1 : 1 + nI k = nI (1 + k) := nI_add 1 k
  have e4 : nI 4 + nI k = nI (4 + k) := nI_add _ _
  have h1 : 1 + k < 50 := by omega
  have h4 : 4 + k < 50 := by omega
  have p0 := t_M_put (z := z) (s := mNewA s k) ok (c := n) (sl := 8 * (1 + k)) hm (by omega) (by omega)
  have p1 := fun o r b p => t_M_put (z := z) (s := mPutC (mNewA s k) n (8 * (1 + k)) o r b p) ok (c := n + 1) (sl := 8 * (1 + k) + 1) (mPutC_13 _ _ _ _ _ _ _) (by omega) (by omega)
  have p2 := fun x o r b p => t_M_put (z := z) (s := mPutC x (n + 1) (8 * (1 + k) + 1) o r b p) ok (c := n + 2) (sl := 8 * (1 + k) + 2) (mPutC_13 _ _ _ _ _ _ _) (by omega) (by omega)
  have p3 := fun x o r b p => t_M_put (z := z) (s := mPutC x (n + 2) (8 * (1 + k) + 2) o r b p) ok (c := n + 3) (sl := 8 * (1 + k) + 3) (mPutC_13 _ _ _ _ _ _ _) (by omega) (by omega)
  have eA : sS (sS (sS (sS (sS (sS s 1 (1 + k) (nI 3)) 6 (1 + k) 1) 2 (4 + k) (nI 16)) 6 (4 + k) 1) 20 k 1) 21 k (nI k) = mNewA s k := rfl
  simp only [D_M_new_323, ic_4n, ic_2n, ic_3n, bc_8, bc_9, bc_7, bc_16, ic_0, ic_1, e1, e4, pk_mul, nI_add, nI_1, mr_kind ok, mw_kind ok h1, Option.bind_some, mr_there ok, mw_there ok h1, mw_there ok h4, mr_size ok, mw_size ok h4, mr_priority ok, mw_priority ok hk, mr_inLine ok, mw_inLine ok hk, xisO_m ok, nar_b1, eA, p0, p1, p2, p3, xclI_some]
  rw [if_neg (nI_ge hk (by decide))]
  exact hend
theorem t_new323 (ok : mOk h m) (hm : s 13 0 = nI 0) : B_M_new_323 z m (nI 1) (mPut h m s) = some (.inl none, mPut h m (mNewS (mNewS (mNewS s 0 1) 4 2) 8 3)) := by
  refine t_new_step ok hm (by decide) (by decide) (t_new_step ok (mPutC_13 _ _ _ _ _ _ _) (by decide) (by decide) (t_new_step ok (mPutC_13 _ _ _ _ _ _ _) (by decide) (by decide) ?_))
  refine E_M_new_323 z m _ _ _ ?_
  unfold D_M_new_323
  rw [ic_4n, if_pos (nI_le (by decide) (by decide))]
end NE
