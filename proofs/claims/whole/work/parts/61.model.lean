/-! The reference: its constructor's heap as a state. -/
section NG
variable {z : xzs}
/-- the state of a new reference before its first writes -/
def mS0 : mS := fun f _ => if f = 7 then nI 10 else if f = 31 then nI 3 else 0
theorem nH_put (b u : Nat) (L : List va_E) (fs : List Value) (as : List va_E) (s : mS) (h32 : as.length = 32) (hf : fs = mFs (b + L.length) s) (ha : ∀ k, k < 32 → as[k]? = some (mCell (b + L.length) s (k + 1))) : nH b u L fs as = mPut (nH b u L fs as) (b + L.length) s := by
  show (b, u, L ++ (.inr (6, fs) :: as)) = (b, u, (L ++ (.inr (6, fs) :: as)).mapIdx _)
  congr 1
  congr 1
  apply List.ext_getElem?
  intro i
  rw [List.getElem?_mapIdx]
  rcases Nat.lt_or_ge i L.length with q | q
  · rw [List.getElem?_append_left q]
    cases L[i]? with
    | none => rfl
    | some x =>
      show some x = some (if b + L.length ≤ b + i ∧ b + i < b + L.length + 33 then _ else x)
      rw [if_neg (by omega)]
  · rw [List.getElem?_append_right q]
    cases e : i - L.length with
    | zero =>
      obtain rfl : i = L.length := by omega
      show some _ = some (if b + L.length ≤ b + L.length ∧ b + L.length < b + L.length + 33 then mCell (b + L.length) s (b + L.length - (b + L.length)) else _)
      rw [if_pos (by omega), Nat.sub_self, hf]
      rfl
    | succ k =>
      rw [List.getElem?_cons_succ]
      rcases Nat.lt_or_ge k 32 with r | r
      · rw [ha k r]
        show some _ = some (if b + L.length ≤ b + i ∧ b + i < b + L.length + 33 then mCell (b + L.length) s (b + i - (b + L.length)) else _)
        rw [if_pos (by omega), show b + i - (b + L.length) = k + 1 by omega]
      · rw [List.getElem?_eq_none (by omega)]
        rfl
end NG
