/-! The reference: its constructor, the arrays. -/
section NF
variable {z : xzs}
def nH (b u : Nat) (L : List va_E) (fs : List Value) (as : List va_E) : xH := (b, u, L ++ (.inr (6, fs) :: as))
theorem nH_at (b u : Nat) (L : List va_E) (fs : List Value) (as : List va_E) : xat (nH b u L fs as) (b + L.length) = some (.inr (6, fs)) := by
  show (if b + L.length < b then none else (L ++ (.inr (6, fs) :: as))[b + L.length - b]?) = _
  rw [if_neg (by omega), Nat.add_sub_cancel_left, List.getElem?_append_right (Nat.le_refl _), Nat.sub_self]
  rfl
theorem nH_n (b u : Nat) (L : List va_E) (fs : List Value) (as : List va_E) : xn (nH b u L fs as) = b + L.length + 1 + as.length := by
  show b + (L ++ (.inr (6, fs) :: as)).length = _
  rw [List.length_append, List.length_cons]
  omega
theorem nH_new (b u : Nat) (L : List va_E) (fs : List Value) (as : List va_E) (kd : Nat) {n : Nat} (hn : n ≤ 100000) : xnarI (nH b u L fs as) kd (nI n) = some (b + L.length + 1 + as.length, nH b (u + n) L fs (as ++ [.inl (kd, n, .inl (fun _ => 0))])) := by
  unfold xnarI
  rw [nI_clamp (by omega), if_neg (by rintro (w | w); exact nI_pos (by omega) w; omega), nH_n]
  show some (_, (b, u + n, L ++ (.inr (6, fs) :: as) ++ [_])) = some (_, (b, u + n, L ++ (.inr (6, fs) :: (as ++ [_]))))
  rw [List.append_assoc, List.cons_append]
theorem nH_set (b u : Nat) (L : List va_E) (fs : List Value) (as : List va_E) {k : Nat} (hk : k < fs.length) (v : Value) : xwr (nH b u L fs as) (b + L.length) 6 k v = some (nH b u L (fs.set k v) as) := by
  rw [xwr_of (nH_at b u L fs as) hk]
  show some (b, u, (L ++ (.inr (6, fs) :: as)).set (b + L.length - b) _) = some (b, u, _)
  rw [Nat.add_sub_cancel_left, List.set_append_right _ _ (Nat.le_refl _), Nat.sub_self]
  rfl
end NF
