/-! HEAPS: what stands where. -/
theorem xat_set {h : xH} {a b : Nat} {e e0 : va_E} (ha : xat h a = some e0) : xat (xset h a e) b = if b = a then some e else xat h b := by
  obtain ⟨h1, h2⟩ := xat_at ha
  have hlt := (List.getElem?_eq_some_iff.mp h2).1
  show (if b < h.1 then none else (h.2.2.set (a - h.1) e)[b - h.1]?) = _
  by_cases hb : b < h.1
  · rw [if_pos hb, if_neg (by omega)]
    unfold xat
    rw [if_pos hb]
  · rw [if_neg hb]
    by_cases e1 : b = a
    · subst e1
      rw [if_pos rfl, List.getElem?_set_self hlt]
    · rw [if_neg e1, List.getElem?_set_ne (by omega)]
      unfold xat
      rw [if_neg hb]
theorem xat_push {h : xH} {k b : Nat} {e : va_E} : xat (xpush h k e) b = if b = xn h then some e else xat h b := by
  show (if b < h.1 then none else (h.2.2 ++ [e])[b - h.1]?) = _
  by_cases hb : b < h.1
  · rw [if_pos hb, if_neg (by unfold xn; omega)]
    unfold xat
    rw [if_pos hb]
  · rw [if_neg hb]
    by_cases e1 : b = xn h
    · subst e1
      rw [if_pos rfl]
      have : xn h - h.1 = h.2.2.length := by unfold xn; omega
      rw [this, List.getElem?_append_right (Nat.le_refl _), Nat.sub_self]
      rfl
    · rw [if_neg e1]
      unfold xat
      rw [if_neg hb]
      by_cases hl : b - h.1 < h.2.2.length
      · rw [List.getElem?_append_left hl]
      · rw [List.getElem?_eq_none (by simp; unfold xn at e1; omega), List.getElem?_eq_none (by omega)]
theorem xob_same (ci : Nat) (fs : List Value) : xob ci (.inr (ci, fs)) = some fs := by simp [xob]
theorem xai_same (kd n : Nat) (f : Nat → Int32) : xai kd (.inl (kd, n, .inl f)) = some (n, f) := by simp [xai]
theorem xrd_of {h : xH} {a ci k : Nat} {fs : List Value} (ha : xat h a = some (.inr (ci, fs))) : xrd h a ci k = fs[k]? := by
  unfold xrd
  rw [ha]
  show (xob ci (.inr (ci, fs))).bind _ = _
  rw [xob_same]
  rfl
theorem rdI_of {h : xH} {a ci k : Nat} {fs : List Value} {x : Int32} (ha : xat h a = some (.inr (ci, fs))) (hk : fs[k]? = some (.int x)) : rdI h a ci k = some x := by
  unfold rdI
  rw [xrd_of ha, hk]
  rfl
theorem rdR_of {h : xH} {a ci k : Nat} {fs : List Value} {r : Option Nat} (ha : xat h a = some (.inr (ci, fs))) (hk : fs[k]? = some (va_rf r)) : rdR h a ci k = some r := by
  unfold rdR
  rw [xrd_of ha, hk]
  exact xrv_rf r
theorem xwr_of {h : xH} {a ci k : Nat} {fs : List Value} {v : Value} (ha : xat h a = some (.inr (ci, fs))) (hk : k < fs.length) : xwr h a ci k v = some (xset h a (.inr (ci, fs.set k v))) := by
  unfold xwr
  rw [ha]
  show (xob ci (.inr (ci, fs))).bind _ = _
  rw [xob_same]
  show (if k < fs.length then _ else _) = _
  rw [if_pos hk]
theorem xisO_of {h : xH} {a ci : Nat} {fs : List Value} (ha : xat h a = some (.inr (ci, fs))) : xisO h a ci = some () := by
  unfold xisO
  rw [ha]
  show (xob ci (.inr (ci, fs))).bind _ = _
  rw [xob_same]
  rfl
theorem xix_nI {j n : Nat} (hj : j < n) (hn : n < 2 ^ 31) : xix (nI j) n = some j := by
  unfold xix
  rw [if_neg (nI_in hj hn), nI_clamp (by omega)]
theorem rdA_of {h : xH} {a kd n j : Nat} {f : Nat → Int32} (ha : xat h a = some (.inl (kd, n, .inl f))) (hj : j < n) (hn : n < 2 ^ 31) : rdA kd h a (nI j) = some (f j) := by
  unfold rdA
  rw [ha]
  simp only [Option.bind_some, xai_same, xix_nI hj hn]
theorem wrI_of {h : xH} {a n j : Nat} {f : Nat → Int32} {x : Int32} (ha : xat h a = some (.inl (0, n, .inl f))) (hj : j < n) (hn : n < 2 ^ 31) : wrI h a (nI j) x = some (xset h a (.inl (0, n, .inl (upd f j x)))) := by
  unfold wrI
  rw [ha]
  simp only [Option.bind_some, xai_same, xix_nI hj hn]
theorem wrZ_of {h : xH} {a n j : Nat} {f : Nat → Int32} {x : Int32} (ha : xat h a = some (.inl (1, n, .inl f))) (hj : j < n) (hn : n < 2 ^ 31) : wrZ h a (nI j) x = some (xset h a (.inl (1, n, .inl (upd f j (vp_nar .boolean x))))) := by
  unfold wrZ
  rw [ha]
  simp only [Option.bind_some, xai_same, xix_nI hj hn]
/-! THE REFERENCE'S STATE: s f j is what its field f holds at place j (numbers at place 0); fields: 0 code, 1 kind, 2 size, 3 used, 4 bits, 5 origin, 6 there, 7 objects, 8 of, 9 rights, 10 badge, 11 parent, 12 lives, 13 made, 14 slot, 15 state, 16 outcome, 17 word, 18 badgeCame, 19 address, 20 priority, 21 inLine, 22 waitsAt, 23 since, 24 message, 25 messageBadge, 26 gift, 27 into, 28 callNumber, 29 caller, 30 callerNumber, 31 clock, 32 pile, 33 piled, 34 block, 35 cells, 36 reads, 37 writes, 38 at, 39 cap, 40 goal, 41 slotSaid -/
abbrev mS : Type := Nat → Nat → Int32
def sS (s : mS) (f j : Nat) (v : Int32) : mS := fun f' j' => if f' = f ∧ j' = j then v else s f' j'
def mFs (m : Nat) (s : mS) : List Value := [.int (s 0 0), .ref (m + 1), .ref (m + 2), .ref (m + 3), .ref (m + 4), .ref (m + 5), .ref (m + 6), .int (s 7 0), .ref (m + 7), .ref (m + 8), .ref (m + 9), .ref (m + 10), .ref (m + 11), .int (s 13 0), .ref (m + 12), .ref (m + 13), .ref (m + 14), .ref (m + 15), .ref (m + 16), .ref (m + 17), .ref (m + 18), .ref (m + 19), .ref (m + 20), .ref (m + 21), .ref (m + 22), .ref (m + 23), .ref (m + 24), .ref (m + 25), .ref (m + 26), .ref (m + 27), .ref (m + 28), .int (s 31 0), .ref (m + 29), .int (s 33 0), .ref (m + 30), .ref (m + 31), .int (s 36 0), .int (s 37 0), .int (s 38 0), .int (s 39 0), .int (s 40 0), .ref (m + 32)]
def mCell (m : Nat) (s : mS) (k : Nat) : va_E := match k with
  | 0 => .inr (6, mFs m s)
  | 1 => .inl (0, 50, .inl (s 1))
  | 2 => .inl (0, 50, .inl (s 2))
  | 3 => .inl (0, 50, .inl (s 3))
  | 4 => .inl (0, 50, .inl (s 4))
  | 5 => .inl (0, 50, .inl (s 5))
  | 6 => .inl (1, 50, .inl (s 6))
  | 7 => .inl (0, 1200, .inl (s 8))
  | 8 => .inl (0, 1200, .inl (s 9))
  | 9 => .inl (0, 1200, .inl (s 10))
  | 10 => .inl (0, 1200, .inl (s 11))
  | 11 => .inl (1, 1200, .inl (s 12))
  | 12 => .inl (0, 400, .inl (s 14))
  | 13 => .inl (0, 4, .inl (s 15))
  | 14 => .inl (0, 4, .inl (s 16))
  | 15 => .inl (0, 4, .inl (s 17))
  | 16 => .inl (0, 4, .inl (s 18))
  | 17 => .inl (0, 4, .inl (s 19))
  | 18 => .inl (0, 4, .inl (s 20))
  | 19 => .inl (0, 4, .inl (s 21))
  | 20 => .inl (0, 4, .inl (s 22))
  | 21 => .inl (0, 4, .inl (s 23))
  | 22 => .inl (0, 4, .inl (s 24))
  | 23 => .inl (0, 4, .inl (s 25))
  | 24 => .inl (0, 4, .inl (s 26))
  | 25 => .inl (0, 4, .inl (s 27))
  | 26 => .inl (0, 4, .inl (s 28))
  | 27 => .inl (0, 4, .inl (s 29))
  | 28 => .inl (0, 4, .inl (s 30))
  | 29 => .inl (0, 1200, .inl (s 32))
  | 30 => .inl (0, 16, .inl (s 34))
  | 31 => .inl (0, 50, .inl (s 35))
  | _ => .inl (0, 4, .inl (s 41))
def mPut (h : xH) (m : Nat) (s : mS) : xH := (h.1, h.2.1, h.2.2.mapIdx (fun i e => if m ≤ h.1 + i ∧ h.1 + i < m + 33 then mCell m s (h.1 + i - m) else e))
def mOk (h : xH) (m : Nat) : Prop := h.1 ≤ m ∧ m + 33 ≤ xn h
theorem mPut_n (h : xH) (m : Nat) (s : mS) : xn (mPut h m s) = xn h := by simp [xn, mPut]
theorem xat_mPut {h : xH} {m : Nat} {s : mS} (ok : mOk h m) (a : Nat) : xat (mPut h m s) a = if m ≤ a ∧ a < m + 33 then some (mCell m s (a - m)) else xat h a := by
  obtain ⟨o1, o2⟩ := ok
  unfold xn at o2
  show (if a < h.1 then none else (h.2.2.mapIdx _)[a - h.1]?) = _
  by_cases hb : a < h.1
  · rw [if_pos hb, if_neg (by omega)]
    unfold xat
    rw [if_pos hb]
  · rw [if_neg hb, List.getElem?_mapIdx]
    have ea : h.1 + (a - h.1) = a := by omega
    by_cases hc : m ≤ a ∧ a < m + 33
    · rw [if_pos hc, List.getElem?_eq_getElem (show a - h.1 < h.2.2.length by omega)]
      show some (if m ≤ h.1 + (a - h.1) ∧ h.1 + (a - h.1) < m + 33 then mCell m s (h.1 + (a - h.1) - m) else _) = _
      rw [ea, if_pos hc]
    · rw [if_neg hc]
      unfold xat
      rw [if_neg hb]
      cases he : h.2.2[a - h.1]? with
      | none => rfl
      | some e =>
        show some (if m ≤ h.1 + (a - h.1) ∧ h.1 + (a - h.1) < m + 33 then mCell m s (h.1 + (a - h.1) - m) else e) = _
        rw [ea, if_neg hc]
theorem mPut_set {h : xH} {m k : Nat} {s s' : mS} (ok : mOk h m) (hk : k < 33) (hs : ∀ j, j < 33 → j ≠ k → mCell m s' j = mCell m s j) : xset (mPut h m s) (m + k) (mCell m s' k) = mPut h m s' := by
  obtain ⟨o1, o2⟩ := ok
  unfold xn at o2
  unfold xset mPut
  refine congrArg (fun l => (h.1, h.2.1, l)) ?_
  refine List.ext_getElem? fun i => ?_
  show ((h.2.2.mapIdx _).set (m + k - h.1) _)[i]? = _
  by_cases hi : i = m + k - h.1
  · subst hi
    have hl : m + k - h.1 < h.2.2.length := by omega
    rw [List.getElem?_set_self (by simpa using hl), List.getElem?_mapIdx, List.getElem?_eq_getElem hl]
    show _ = some (if m ≤ h.1 + (m + k - h.1) ∧ h.1 + (m + k - h.1) < m + 33 then mCell m s' (h.1 + (m + k - h.1) - m) else _)
    rw [if_pos (by omega), show h.1 + (m + k - h.1) - m = k by omega]
  · rw [List.getElem?_set_ne (Ne.symm hi), List.getElem?_mapIdx, List.getElem?_mapIdx]
    cases he : h.2.2[i]? with
    | none => rfl
    | some e =>
      show some (if m ≤ h.1 + i ∧ h.1 + i < m + 33 then mCell m s (h.1 + i - m) else e) = some (if m ≤ h.1 + i ∧ h.1 + i < m + 33 then mCell m s' (h.1 + i - m) else e)
      by_cases hc : m ≤ h.1 + i ∧ h.1 + i < m + 33
      · rw [if_pos hc, if_pos hc, hs _ (by omega) (by omega)]
      · rw [if_neg hc, if_neg hc]
theorem xat_m0 {h : xH} {m : Nat} {s : mS} (ok : mOk h m) : xat (mPut h m s) m = some (.inr (6, mFs m s)) := by
  rw [xat_mPut ok, if_pos (by omega), Nat.sub_self]
  rfl
theorem xat_mk {h : xH} {m : Nat} {s : mS} (ok : mOk h m) (k : Nat) (hk : k < 33) : xat (mPut h m s) (m + k) = some (mCell m s k) := by
  rw [xat_mPut ok, if_pos (by omega), show m + k - m = k by omega]
theorem sS_same (s : mS) (f j : Nat) (v : Int32) : sS s f j v f j = v := by simp [sS]
theorem sS_upd (s : mS) (f j : Nat) (v : Int32) : sS s f j v f = upd (s f) j v := by
  funext i
  by_cases hi : i = j <;> simp [sS, upd, hi]
theorem sS_ne (s : mS) {f f' : Nat} (j : Nat) (v : Int32) (hf : f' ≠ f) : sS s f j v f' = s f' := by
  funext i
  simp [sS, hf]
def mArr : List Nat := [1, 2, 3, 4, 5, 6, 8, 9, 10, 11, 12, 14, 15, 16, 17, 18, 19, 20, 21, 22, 23, 24, 25, 26, 27, 28, 29, 30, 32, 34, 35, 41]
theorem mCell_at {m : Nat} {s s' : mS} {k : Nat} (hk : k < 33) (h0 : k ≠ 0) (h : ∀ f, mArr[k - 1]? = some f → s' f = s f) : mCell m s' k = mCell m s k := by
  match k, hk, h0, h with
  | 0, _, h0, _ => exact absurd rfl h0
  | 1, _, _, h => exact congrArg (fun g => (Sum.inl (0, 50, .inl g) : va_E)) (h 1 rfl)
  | 2, _, _, h => exact congrArg (fun g => (Sum.inl (0, 50, .inl g) : va_E)) (h 2 rfl)
  | 3, _, _, h => exact congrArg (fun g => (Sum.inl (0, 50, .inl g) : va_E)) (h 3 rfl)
  | 4, _, _, h => exact congrArg (fun g => (Sum.inl (0, 50, .inl g) : va_E)) (h 4 rfl)
  | 5, _, _, h => exact congrArg (fun g => (Sum.inl (0, 50, .inl g) : va_E)) (h 5 rfl)
  | 6, _, _, h => exact congrArg (fun g => (Sum.inl (1, 50, .inl g) : va_E)) (h 6 rfl)
  | 7, _, _, h => exact congrArg (fun g => (Sum.inl (0, 1200, .inl g) : va_E)) (h 8 rfl)
  | 8, _, _, h => exact congrArg (fun g => (Sum.inl (0, 1200, .inl g) : va_E)) (h 9 rfl)
  | 9, _, _, h => exact congrArg (fun g => (Sum.inl (0, 1200, .inl g) : va_E)) (h 10 rfl)
  | 10, _, _, h => exact congrArg (fun g => (Sum.inl (0, 1200, .inl g) : va_E)) (h 11 rfl)
  | 11, _, _, h => exact congrArg (fun g => (Sum.inl (1, 1200, .inl g) : va_E)) (h 12 rfl)
  | 12, _, _, h => exact congrArg (fun g => (Sum.inl (0, 400, .inl g) : va_E)) (h 14 rfl)
  | 13, _, _, h => exact congrArg (fun g => (Sum.inl (0, 4, .inl g) : va_E)) (h 15 rfl)
  | 14, _, _, h => exact congrArg (fun g => (Sum.inl (0, 4, .inl g) : va_E)) (h 16 rfl)
  | 15, _, _, h => exact congrArg (fun g => (Sum.inl (0, 4, .inl g) : va_E)) (h 17 rfl)
  | 16, _, _, h => exact congrArg (fun g => (Sum.inl (0, 4, .inl g) : va_E)) (h 18 rfl)
  | 17, _, _, h => exact congrArg (fun g => (Sum.inl (0, 4, .inl g) : va_E)) (h 19 rfl)
  | 18, _, _, h => exact congrArg (fun g => (Sum.inl (0, 4, .inl g) : va_E)) (h 20 rfl)
  | 19, _, _, h => exact congrArg (fun g => (Sum.inl (0, 4, .inl g) : va_E)) (h 21 rfl)
  | 20, _, _, h => exact congrArg (fun g => (Sum.inl (0, 4, .inl g) : va_E)) (h 22 rfl)
  | 21, _, _, h => exact congrArg (fun g => (Sum.inl (0, 4, .inl g) : va_E)) (h 23 rfl)
  | 22, _, _, h => exact congrArg (fun g => (Sum.inl (0, 4, .inl g) : va_E)) (h 24 rfl)
  | 23, _, _, h => exact congrArg (fun g => (Sum.inl (0, 4, .inl g) : va_E)) (h 25 rfl)
  | 24, _, _, h => exact congrArg (fun g => (Sum.inl (0, 4, .inl g) : va_E)) (h 26 rfl)
  | 25, _, _, h => exact congrArg (fun g => (Sum.inl (0, 4, .inl g) : va_E)) (h 27 rfl)
  | 26, _, _, h => exact congrArg (fun g => (Sum.inl (0, 4, .inl g) : va_E)) (h 28 rfl)
  | 27, _, _, h => exact congrArg (fun g => (Sum.inl (0, 4, .inl g) : va_E)) (h 29 rfl)
  | 28, _, _, h => exact congrArg (fun g => (Sum.inl (0, 4, .inl g) : va_E)) (h 30 rfl)
  | 29, _, _, h => exact congrArg (fun g => (Sum.inl (0, 1200, .inl g) : va_E)) (h 32 rfl)
  | 30, _, _, h => exact congrArg (fun g => (Sum.inl (0, 16, .inl g) : va_E)) (h 34 rfl)
  | 31, _, _, h => exact congrArg (fun g => (Sum.inl (0, 50, .inl g) : va_E)) (h 35 rfl)
  | 32, _, _, h => exact congrArg (fun g => (Sum.inl (0, 4, .inl g) : va_E)) (h 41 rfl)
  | n + 33, hk, _, _ => exact absurd hk (by omega)
theorem mCell_sc {m : Nat} {s : mS} {f : Nat} {v : Int32} (hf : f ∉ mArr) {j : Nat} (hj : j < 33) (hn : j ≠ 0) : mCell m (sS s f 0 v) j = mCell m s j := by
  refine mCell_at hj hn (fun g hg => sS_ne s 0 v (fun e => hf ?_))
  rw [← e]
  exact List.mem_of_getElem? hg
theorem mFs_ar {m : Nat} {s : mS} {f j : Nat} {v : Int32} (hf : f ∈ mArr) : mFs m (sS s f j v) = mFs m s := by
  have key : ∀ g : Nat, g ∉ mArr → sS s f j v g = s g := fun g hg => sS_ne s j v (fun e => hg (by rw [e]; exact hf))
  unfold mFs
  rw [key 0 (by decide), key 7 (by decide), key 13 (by decide), key 31 (by decide), key 33 (by decide), key 36 (by decide), key 37 (by decide), key 38 (by decide), key 39 (by decide), key 40 (by decide)]
theorem mCell_ar {m : Nat} {s : mS} {f k j : Nat} {v : Int32} (hf : f ∈ mArr ∧ k ≠ 0) (hk : mArr[k - 1]? = some f) {i : Nat} (hi : i < 33) (hn : i ≠ k) : mCell m (sS s f j v) i = mCell m s i := by
  by_cases h0 : i = 0
  · subst h0
    show (Sum.inr (6, mFs m _) : va_E) = Sum.inr (6, mFs m s)
    rw [mFs_ar hf.1]
  · refine mCell_at hi h0 (fun g hg => sS_ne s j v (fun e => ?_))
    subst e
    have hnd : mArr.Nodup := by decide
    have hl1 : i - 1 < mArr.length := (List.getElem?_eq_some_iff.mp hg).1
    have h2 := (List.getElem?_inj hl1 hnd).mp (hg.trans hk.symm)
    omega
theorem mr_code {h : xH} {m : Nat} {s : mS} (ok : mOk h m) : rdI (mPut h m s) m 6 0 = some (s 0 0) := rdI_of (xat_m0 ok) rfl
theorem mw_code {h : xH} {m : Nat} {s : mS} (ok : mOk h m) (v : Int32) : xwr (mPut h m s) m 6 0 (.int v) = some (mPut h m (sS s 0 0 v)) := by
  rw [xwr_of (xat_m0 ok) (Nat.le_of_ble_eq_true rfl)]
  refine congrArg some ?_
  exact mPut_set (k := 0) (s' := sS s 0 0 v) ok (by decide) (fun j hj hn => mCell_sc (by decide) hj hn)
theorem mr_kind {h : xH} {m : Nat} {s : mS} (ok : mOk h m) : rdR (mPut h m s) m 6 1 = some (some (m + 1)) := rdR_of (xat_m0 ok) rfl
theorem ma_kind {h : xH} {m : Nat} {s : mS} (ok : mOk h m) {j : Nat} (hj : j < 50) : rdA 0 (mPut h m s) (m + 1) (nI j) = some (s 1 j) := rdA_of (xat_mk ok 1 (by decide)) hj (by decide)
theorem mw_kind {h : xH} {m : Nat} {s : mS} (ok : mOk h m) {j : Nat} (hj : j < 50) (v : Int32) : wrI (mPut h m s) (m + 1) (nI j) v = some (mPut h m (sS s 1 j v)) := by
  rw [wrI_of (xat_mk ok 1 (by decide)) hj (by decide), ← sS_upd s 1 j v]
  refine congrArg some ?_
  exact mPut_set (k := 1) (s' := sS s 1 j v) ok (by decide) (fun i hi hn => mCell_ar (by decide) rfl hi hn)
theorem mr_size {h : xH} {m : Nat} {s : mS} (ok : mOk h m) : rdR (mPut h m s) m 6 2 = some (some (m + 2)) := rdR_of (xat_m0 ok) rfl
theorem ma_size {h : xH} {m : Nat} {s : mS} (ok : mOk h m) {j : Nat} (hj : j < 50) : rdA 0 (mPut h m s) (m + 2) (nI j) = some (s 2 j) := rdA_of (xat_mk ok 2 (by decide)) hj (by decide)
theorem mw_size {h : xH} {m : Nat} {s : mS} (ok : mOk h m) {j : Nat} (hj : j < 50) (v : Int32) : wrI (mPut h m s) (m + 2) (nI j) v = some (mPut h m (sS s 2 j v)) := by
  rw [wrI_of (xat_mk ok 2 (by decide)) hj (by decide), ← sS_upd s 2 j v]
  refine congrArg some ?_
  exact mPut_set (k := 2) (s' := sS s 2 j v) ok (by decide) (fun i hi hn => mCell_ar (by decide) rfl hi hn)
theorem mr_used {h : xH} {m : Nat} {s : mS} (ok : mOk h m) : rdR (mPut h m s) m 6 3 = some (some (m + 3)) := rdR_of (xat_m0 ok) rfl
theorem ma_used {h : xH} {m : Nat} {s : mS} (ok : mOk h m) {j : Nat} (hj : j < 50) : rdA 0 (mPut h m s) (m + 3) (nI j) = some (s 3 j) := rdA_of (xat_mk ok 3 (by decide)) hj (by decide)
theorem mw_used {h : xH} {m : Nat} {s : mS} (ok : mOk h m) {j : Nat} (hj : j < 50) (v : Int32) : wrI (mPut h m s) (m + 3) (nI j) v = some (mPut h m (sS s 3 j v)) := by
  rw [wrI_of (xat_mk ok 3 (by decide)) hj (by decide), ← sS_upd s 3 j v]
  refine congrArg some ?_
  exact mPut_set (k := 3) (s' := sS s 3 j v) ok (by decide) (fun i hi hn => mCell_ar (by decide) rfl hi hn)
theorem mr_bits {h : xH} {m : Nat} {s : mS} (ok : mOk h m) : rdR (mPut h m s) m 6 4 = some (some (m + 4)) := rdR_of (xat_m0 ok) rfl
theorem ma_bits {h : xH} {m : Nat} {s : mS} (ok : mOk h m) {j : Nat} (hj : j < 50) : rdA 0 (mPut h m s) (m + 4) (nI j) = some (s 4 j) := rdA_of (xat_mk ok 4 (by decide)) hj (by decide)
theorem mw_bits {h : xH} {m : Nat} {s : mS} (ok : mOk h m) {j : Nat} (hj : j < 50) (v : Int32) : wrI (mPut h m s) (m + 4) (nI j) v = some (mPut h m (sS s 4 j v)) := by
  rw [wrI_of (xat_mk ok 4 (by decide)) hj (by decide), ← sS_upd s 4 j v]
  refine congrArg some ?_
  exact mPut_set (k := 4) (s' := sS s 4 j v) ok (by decide) (fun i hi hn => mCell_ar (by decide) rfl hi hn)
theorem mr_origin {h : xH} {m : Nat} {s : mS} (ok : mOk h m) : rdR (mPut h m s) m 6 5 = some (some (m + 5)) := rdR_of (xat_m0 ok) rfl
theorem ma_origin {h : xH} {m : Nat} {s : mS} (ok : mOk h m) {j : Nat} (hj : j < 50) : rdA 0 (mPut h m s) (m + 5) (nI j) = some (s 5 j) := rdA_of (xat_mk ok 5 (by decide)) hj (by decide)
theorem mw_origin {h : xH} {m : Nat} {s : mS} (ok : mOk h m) {j : Nat} (hj : j < 50) (v : Int32) : wrI (mPut h m s) (m + 5) (nI j) v = some (mPut h m (sS s 5 j v)) := by
  rw [wrI_of (xat_mk ok 5 (by decide)) hj (by decide), ← sS_upd s 5 j v]
  refine congrArg some ?_
  exact mPut_set (k := 5) (s' := sS s 5 j v) ok (by decide) (fun i hi hn => mCell_ar (by decide) rfl hi hn)
theorem mr_there {h : xH} {m : Nat} {s : mS} (ok : mOk h m) : rdR (mPut h m s) m 6 6 = some (some (m + 6)) := rdR_of (xat_m0 ok) rfl
theorem ma_there {h : xH} {m : Nat} {s : mS} (ok : mOk h m) {j : Nat} (hj : j < 50) : rdA 1 (mPut h m s) (m + 6) (nI j) = some (s 6 j) := rdA_of (xat_mk ok 6 (by decide)) hj (by decide)
theorem mw_there {h : xH} {m : Nat} {s : mS} (ok : mOk h m) {j : Nat} (hj : j < 50) (v : Int32) : wrZ (mPut h m s) (m + 6) (nI j) v = some (mPut h m (sS s 6 j (vp_nar .boolean v))) := by
  rw [wrZ_of (xat_mk ok 6 (by decide)) hj (by decide), ← sS_upd s 6 j (vp_nar .boolean v)]
  refine congrArg some ?_
  exact mPut_set (k := 6) (s' := sS s 6 j (vp_nar .boolean v)) ok (by decide) (fun i hi hn => mCell_ar (by decide) rfl hi hn)
theorem mr_objects {h : xH} {m : Nat} {s : mS} (ok : mOk h m) : rdI (mPut h m s) m 6 7 = some (s 7 0) := rdI_of (xat_m0 ok) rfl
theorem mw_objects {h : xH} {m : Nat} {s : mS} (ok : mOk h m) (v : Int32) : xwr (mPut h m s) m 6 7 (.int v) = some (mPut h m (sS s 7 0 v)) := by
  rw [xwr_of (xat_m0 ok) (Nat.le_of_ble_eq_true rfl)]
  refine congrArg some ?_
  exact mPut_set (k := 0) (s' := sS s 7 0 v) ok (by decide) (fun j hj hn => mCell_sc (by decide) hj hn)
theorem mr_of {h : xH} {m : Nat} {s : mS} (ok : mOk h m) : rdR (mPut h m s) m 6 8 = some (some (m + 7)) := rdR_of (xat_m0 ok) rfl
theorem ma_of {h : xH} {m : Nat} {s : mS} (ok : mOk h m) {j : Nat} (hj : j < 1200) : rdA 0 (mPut h m s) (m + 7) (nI j) = some (s 8 j) := rdA_of (xat_mk ok 7 (by decide)) hj (by decide)
theorem mw_of {h : xH} {m : Nat} {s : mS} (ok : mOk h m) {j : Nat} (hj : j < 1200) (v : Int32) : wrI (mPut h m s) (m + 7) (nI j) v = some (mPut h m (sS s 8 j v)) := by
  rw [wrI_of (xat_mk ok 7 (by decide)) hj (by decide), ← sS_upd s 8 j v]
  refine congrArg some ?_
  exact mPut_set (k := 7) (s' := sS s 8 j v) ok (by decide) (fun i hi hn => mCell_ar (by decide) rfl hi hn)
theorem mr_rights {h : xH} {m : Nat} {s : mS} (ok : mOk h m) : rdR (mPut h m s) m 6 9 = some (some (m + 8)) := rdR_of (xat_m0 ok) rfl
theorem ma_rights {h : xH} {m : Nat} {s : mS} (ok : mOk h m) {j : Nat} (hj : j < 1200) : rdA 0 (mPut h m s) (m + 8) (nI j) = some (s 9 j) := rdA_of (xat_mk ok 8 (by decide)) hj (by decide)
theorem mw_rights {h : xH} {m : Nat} {s : mS} (ok : mOk h m) {j : Nat} (hj : j < 1200) (v : Int32) : wrI (mPut h m s) (m + 8) (nI j) v = some (mPut h m (sS s 9 j v)) := by
  rw [wrI_of (xat_mk ok 8 (by decide)) hj (by decide), ← sS_upd s 9 j v]
  refine congrArg some ?_
  exact mPut_set (k := 8) (s' := sS s 9 j v) ok (by decide) (fun i hi hn => mCell_ar (by decide) rfl hi hn)
theorem mr_badge {h : xH} {m : Nat} {s : mS} (ok : mOk h m) : rdR (mPut h m s) m 6 10 = some (some (m + 9)) := rdR_of (xat_m0 ok) rfl
theorem ma_badge {h : xH} {m : Nat} {s : mS} (ok : mOk h m) {j : Nat} (hj : j < 1200) : rdA 0 (mPut h m s) (m + 9) (nI j) = some (s 10 j) := rdA_of (xat_mk ok 9 (by decide)) hj (by decide)
theorem mw_badge {h : xH} {m : Nat} {s : mS} (ok : mOk h m) {j : Nat} (hj : j < 1200) (v : Int32) : wrI (mPut h m s) (m + 9) (nI j) v = some (mPut h m (sS s 10 j v)) := by
  rw [wrI_of (xat_mk ok 9 (by decide)) hj (by decide), ← sS_upd s 10 j v]
  refine congrArg some ?_
  exact mPut_set (k := 9) (s' := sS s 10 j v) ok (by decide) (fun i hi hn => mCell_ar (by decide) rfl hi hn)
theorem mr_parent {h : xH} {m : Nat} {s : mS} (ok : mOk h m) : rdR (mPut h m s) m 6 11 = some (some (m + 10)) := rdR_of (xat_m0 ok) rfl
theorem ma_parent {h : xH} {m : Nat} {s : mS} (ok : mOk h m) {j : Nat} (hj : j < 1200) : rdA 0 (mPut h m s) (m + 10) (nI j) = some (s 11 j) := rdA_of (xat_mk ok 10 (by decide)) hj (by decide)
theorem mw_parent {h : xH} {m : Nat} {s : mS} (ok : mOk h m) {j : Nat} (hj : j < 1200) (v : Int32) : wrI (mPut h m s) (m + 10) (nI j) v = some (mPut h m (sS s 11 j v)) := by
  rw [wrI_of (xat_mk ok 10 (by decide)) hj (by decide), ← sS_upd s 11 j v]
  refine congrArg some ?_
  exact mPut_set (k := 10) (s' := sS s 11 j v) ok (by decide) (fun i hi hn => mCell_ar (by decide) rfl hi hn)
theorem mr_lives {h : xH} {m : Nat} {s : mS} (ok : mOk h m) : rdR (mPut h m s) m 6 12 = some (some (m + 11)) := rdR_of (xat_m0 ok) rfl
theorem ma_lives {h : xH} {m : Nat} {s : mS} (ok : mOk h m) {j : Nat} (hj : j < 1200) : rdA 1 (mPut h m s) (m + 11) (nI j) = some (s 12 j) := rdA_of (xat_mk ok 11 (by decide)) hj (by decide)
theorem mw_lives {h : xH} {m : Nat} {s : mS} (ok : mOk h m) {j : Nat} (hj : j < 1200) (v : Int32) : wrZ (mPut h m s) (m + 11) (nI j) v = some (mPut h m (sS s 12 j (vp_nar .boolean v))) := by
  rw [wrZ_of (xat_mk ok 11 (by decide)) hj (by decide), ← sS_upd s 12 j (vp_nar .boolean v)]
  refine congrArg some ?_
  exact mPut_set (k := 11) (s' := sS s 12 j (vp_nar .boolean v)) ok (by decide) (fun i hi hn => mCell_ar (by decide) rfl hi hn)
theorem mr_made {h : xH} {m : Nat} {s : mS} (ok : mOk h m) : rdI (mPut h m s) m 6 13 = some (s 13 0) := rdI_of (xat_m0 ok) rfl
theorem mw_made {h : xH} {m : Nat} {s : mS} (ok : mOk h m) (v : Int32) : xwr (mPut h m s) m 6 13 (.int v) = some (mPut h m (sS s 13 0 v)) := by
  rw [xwr_of (xat_m0 ok) (Nat.le_of_ble_eq_true rfl)]
  refine congrArg some ?_
  exact mPut_set (k := 0) (s' := sS s 13 0 v) ok (by decide) (fun j hj hn => mCell_sc (by decide) hj hn)
theorem mr_slot {h : xH} {m : Nat} {s : mS} (ok : mOk h m) : rdR (mPut h m s) m 6 14 = some (some (m + 12)) := rdR_of (xat_m0 ok) rfl
theorem ma_slot {h : xH} {m : Nat} {s : mS} (ok : mOk h m) {j : Nat} (hj : j < 400) : rdA 0 (mPut h m s) (m + 12) (nI j) = some (s 14 j) := rdA_of (xat_mk ok 12 (by decide)) hj (by decide)
theorem mw_slot {h : xH} {m : Nat} {s : mS} (ok : mOk h m) {j : Nat} (hj : j < 400) (v : Int32) : wrI (mPut h m s) (m + 12) (nI j) v = some (mPut h m (sS s 14 j v)) := by
  rw [wrI_of (xat_mk ok 12 (by decide)) hj (by decide), ← sS_upd s 14 j v]
  refine congrArg some ?_
  exact mPut_set (k := 12) (s' := sS s 14 j v) ok (by decide) (fun i hi hn => mCell_ar (by decide) rfl hi hn)
theorem mr_state {h : xH} {m : Nat} {s : mS} (ok : mOk h m) : rdR (mPut h m s) m 6 15 = some (some (m + 13)) := rdR_of (xat_m0 ok) rfl
theorem ma_state {h : xH} {m : Nat} {s : mS} (ok : mOk h m) {j : Nat} (hj : j < 4) : rdA 0 (mPut h m s) (m + 13) (nI j) = some (s 15 j) := rdA_of (xat_mk ok 13 (by decide)) hj (by decide)
theorem mw_state {h : xH} {m : Nat} {s : mS} (ok : mOk h m) {j : Nat} (hj : j < 4) (v : Int32) : wrI (mPut h m s) (m + 13) (nI j) v = some (mPut h m (sS s 15 j v)) := by
  rw [wrI_of (xat_mk ok 13 (by decide)) hj (by decide), ← sS_upd s 15 j v]
  refine congrArg some ?_
  exact mPut_set (k := 13) (s' := sS s 15 j v) ok (by decide) (fun i hi hn => mCell_ar (by decide) rfl hi hn)
theorem mr_outcome {h : xH} {m : Nat} {s : mS} (ok : mOk h m) : rdR (mPut h m s) m 6 16 = some (some (m + 14)) := rdR_of (xat_m0 ok) rfl
theorem ma_outcome {h : xH} {m : Nat} {s : mS} (ok : mOk h m) {j : Nat} (hj : j < 4) : rdA 0 (mPut h m s) (m + 14) (nI j) = some (s 16 j) := rdA_of (xat_mk ok 14 (by decide)) hj (by decide)
theorem mw_outcome {h : xH} {m : Nat} {s : mS} (ok : mOk h m) {j : Nat} (hj : j < 4) (v : Int32) : wrI (mPut h m s) (m + 14) (nI j) v = some (mPut h m (sS s 16 j v)) := by
  rw [wrI_of (xat_mk ok 14 (by decide)) hj (by decide), ← sS_upd s 16 j v]
  refine congrArg some ?_
  exact mPut_set (k := 14) (s' := sS s 16 j v) ok (by decide) (fun i hi hn => mCell_ar (by decide) rfl hi hn)
theorem mr_word {h : xH} {m : Nat} {s : mS} (ok : mOk h m) : rdR (mPut h m s) m 6 17 = some (some (m + 15)) := rdR_of (xat_m0 ok) rfl
theorem ma_word {h : xH} {m : Nat} {s : mS} (ok : mOk h m) {j : Nat} (hj : j < 4) : rdA 0 (mPut h m s) (m + 15) (nI j) = some (s 17 j) := rdA_of (xat_mk ok 15 (by decide)) hj (by decide)
theorem mw_word {h : xH} {m : Nat} {s : mS} (ok : mOk h m) {j : Nat} (hj : j < 4) (v : Int32) : wrI (mPut h m s) (m + 15) (nI j) v = some (mPut h m (sS s 17 j v)) := by
  rw [wrI_of (xat_mk ok 15 (by decide)) hj (by decide), ← sS_upd s 17 j v]
  refine congrArg some ?_
  exact mPut_set (k := 15) (s' := sS s 17 j v) ok (by decide) (fun i hi hn => mCell_ar (by decide) rfl hi hn)
theorem mr_badgeCame {h : xH} {m : Nat} {s : mS} (ok : mOk h m) : rdR (mPut h m s) m 6 18 = some (some (m + 16)) := rdR_of (xat_m0 ok) rfl
theorem ma_badgeCame {h : xH} {m : Nat} {s : mS} (ok : mOk h m) {j : Nat} (hj : j < 4) : rdA 0 (mPut h m s) (m + 16) (nI j) = some (s 18 j) := rdA_of (xat_mk ok 16 (by decide)) hj (by decide)
theorem mw_badgeCame {h : xH} {m : Nat} {s : mS} (ok : mOk h m) {j : Nat} (hj : j < 4) (v : Int32) : wrI (mPut h m s) (m + 16) (nI j) v = some (mPut h m (sS s 18 j v)) := by
  rw [wrI_of (xat_mk ok 16 (by decide)) hj (by decide), ← sS_upd s 18 j v]
  refine congrArg some ?_
  exact mPut_set (k := 16) (s' := sS s 18 j v) ok (by decide) (fun i hi hn => mCell_ar (by decide) rfl hi hn)
theorem mr_address {h : xH} {m : Nat} {s : mS} (ok : mOk h m) : rdR (mPut h m s) m 6 19 = some (some (m + 17)) := rdR_of (xat_m0 ok) rfl
theorem ma_address {h : xH} {m : Nat} {s : mS} (ok : mOk h m) {j : Nat} (hj : j < 4) : rdA 0 (mPut h m s) (m + 17) (nI j) = some (s 19 j) := rdA_of (xat_mk ok 17 (by decide)) hj (by decide)
theorem mw_address {h : xH} {m : Nat} {s : mS} (ok : mOk h m) {j : Nat} (hj : j < 4) (v : Int32) : wrI (mPut h m s) (m + 17) (nI j) v = some (mPut h m (sS s 19 j v)) := by
  rw [wrI_of (xat_mk ok 17 (by decide)) hj (by decide), ← sS_upd s 19 j v]
  refine congrArg some ?_
  exact mPut_set (k := 17) (s' := sS s 19 j v) ok (by decide) (fun i hi hn => mCell_ar (by decide) rfl hi hn)
theorem mr_priority {h : xH} {m : Nat} {s : mS} (ok : mOk h m) : rdR (mPut h m s) m 6 20 = some (some (m + 18)) := rdR_of (xat_m0 ok) rfl
theorem ma_priority {h : xH} {m : Nat} {s : mS} (ok : mOk h m) {j : Nat} (hj : j < 4) : rdA 0 (mPut h m s) (m + 18) (nI j) = some (s 20 j) := rdA_of (xat_mk ok 18 (by decide)) hj (by decide)
theorem mw_priority {h : xH} {m : Nat} {s : mS} (ok : mOk h m) {j : Nat} (hj : j < 4) (v : Int32) : wrI (mPut h m s) (m + 18) (nI j) v = some (mPut h m (sS s 20 j v)) := by
  rw [wrI_of (xat_mk ok 18 (by decide)) hj (by decide), ← sS_upd s 20 j v]
  refine congrArg some ?_
  exact mPut_set (k := 18) (s' := sS s 20 j v) ok (by decide) (fun i hi hn => mCell_ar (by decide) rfl hi hn)
theorem mr_inLine {h : xH} {m : Nat} {s : mS} (ok : mOk h m) : rdR (mPut h m s) m 6 21 = some (some (m + 19)) := rdR_of (xat_m0 ok) rfl
theorem ma_inLine {h : xH} {m : Nat} {s : mS} (ok : mOk h m) {j : Nat} (hj : j < 4) : rdA 0 (mPut h m s) (m + 19) (nI j) = some (s 21 j) := rdA_of (xat_mk ok 19 (by decide)) hj (by decide)
theorem mw_inLine {h : xH} {m : Nat} {s : mS} (ok : mOk h m) {j : Nat} (hj : j < 4) (v : Int32) : wrI (mPut h m s) (m + 19) (nI j) v = some (mPut h m (sS s 21 j v)) := by
  rw [wrI_of (xat_mk ok 19 (by decide)) hj (by decide), ← sS_upd s 21 j v]
  refine congrArg some ?_
  exact mPut_set (k := 19) (s' := sS s 21 j v) ok (by decide) (fun i hi hn => mCell_ar (by decide) rfl hi hn)
theorem mr_waitsAt {h : xH} {m : Nat} {s : mS} (ok : mOk h m) : rdR (mPut h m s) m 6 22 = some (some (m + 20)) := rdR_of (xat_m0 ok) rfl
theorem ma_waitsAt {h : xH} {m : Nat} {s : mS} (ok : mOk h m) {j : Nat} (hj : j < 4) : rdA 0 (mPut h m s) (m + 20) (nI j) = some (s 22 j) := rdA_of (xat_mk ok 20 (by decide)) hj (by decide)
theorem mw_waitsAt {h : xH} {m : Nat} {s : mS} (ok : mOk h m) {j : Nat} (hj : j < 4) (v : Int32) : wrI (mPut h m s) (m + 20) (nI j) v = some (mPut h m (sS s 22 j v)) := by
  rw [wrI_of (xat_mk ok 20 (by decide)) hj (by decide), ← sS_upd s 22 j v]
  refine congrArg some ?_
  exact mPut_set (k := 20) (s' := sS s 22 j v) ok (by decide) (fun i hi hn => mCell_ar (by decide) rfl hi hn)
theorem mr_since {h : xH} {m : Nat} {s : mS} (ok : mOk h m) : rdR (mPut h m s) m 6 23 = some (some (m + 21)) := rdR_of (xat_m0 ok) rfl
theorem ma_since {h : xH} {m : Nat} {s : mS} (ok : mOk h m) {j : Nat} (hj : j < 4) : rdA 0 (mPut h m s) (m + 21) (nI j) = some (s 23 j) := rdA_of (xat_mk ok 21 (by decide)) hj (by decide)
theorem mw_since {h : xH} {m : Nat} {s : mS} (ok : mOk h m) {j : Nat} (hj : j < 4) (v : Int32) : wrI (mPut h m s) (m + 21) (nI j) v = some (mPut h m (sS s 23 j v)) := by
  rw [wrI_of (xat_mk ok 21 (by decide)) hj (by decide), ← sS_upd s 23 j v]
  refine congrArg some ?_
  exact mPut_set (k := 21) (s' := sS s 23 j v) ok (by decide) (fun i hi hn => mCell_ar (by decide) rfl hi hn)
theorem mr_message {h : xH} {m : Nat} {s : mS} (ok : mOk h m) : rdR (mPut h m s) m 6 24 = some (some (m + 22)) := rdR_of (xat_m0 ok) rfl
theorem ma_message {h : xH} {m : Nat} {s : mS} (ok : mOk h m) {j : Nat} (hj : j < 4) : rdA 0 (mPut h m s) (m + 22) (nI j) = some (s 24 j) := rdA_of (xat_mk ok 22 (by decide)) hj (by decide)
theorem mw_message {h : xH} {m : Nat} {s : mS} (ok : mOk h m) {j : Nat} (hj : j < 4) (v : Int32) : wrI (mPut h m s) (m + 22) (nI j) v = some (mPut h m (sS s 24 j v)) := by
  rw [wrI_of (xat_mk ok 22 (by decide)) hj (by decide), ← sS_upd s 24 j v]
  refine congrArg some ?_
  exact mPut_set (k := 22) (s' := sS s 24 j v) ok (by decide) (fun i hi hn => mCell_ar (by decide) rfl hi hn)
theorem mr_messageBadge {h : xH} {m : Nat} {s : mS} (ok : mOk h m) : rdR (mPut h m s) m 6 25 = some (some (m + 23)) := rdR_of (xat_m0 ok) rfl
theorem ma_messageBadge {h : xH} {m : Nat} {s : mS} (ok : mOk h m) {j : Nat} (hj : j < 4) : rdA 0 (mPut h m s) (m + 23) (nI j) = some (s 25 j) := rdA_of (xat_mk ok 23 (by decide)) hj (by decide)
theorem mw_messageBadge {h : xH} {m : Nat} {s : mS} (ok : mOk h m) {j : Nat} (hj : j < 4) (v : Int32) : wrI (mPut h m s) (m + 23) (nI j) v = some (mPut h m (sS s 25 j v)) := by
  rw [wrI_of (xat_mk ok 23 (by decide)) hj (by decide), ← sS_upd s 25 j v]
  refine congrArg some ?_
  exact mPut_set (k := 23) (s' := sS s 25 j v) ok (by decide) (fun i hi hn => mCell_ar (by decide) rfl hi hn)
theorem mr_gift {h : xH} {m : Nat} {s : mS} (ok : mOk h m) : rdR (mPut h m s) m 6 26 = some (some (m + 24)) := rdR_of (xat_m0 ok) rfl
theorem ma_gift {h : xH} {m : Nat} {s : mS} (ok : mOk h m) {j : Nat} (hj : j < 4) : rdA 0 (mPut h m s) (m + 24) (nI j) = some (s 26 j) := rdA_of (xat_mk ok 24 (by decide)) hj (by decide)
theorem mw_gift {h : xH} {m : Nat} {s : mS} (ok : mOk h m) {j : Nat} (hj : j < 4) (v : Int32) : wrI (mPut h m s) (m + 24) (nI j) v = some (mPut h m (sS s 26 j v)) := by
  rw [wrI_of (xat_mk ok 24 (by decide)) hj (by decide), ← sS_upd s 26 j v]
  refine congrArg some ?_
  exact mPut_set (k := 24) (s' := sS s 26 j v) ok (by decide) (fun i hi hn => mCell_ar (by decide) rfl hi hn)
theorem mr_into {h : xH} {m : Nat} {s : mS} (ok : mOk h m) : rdR (mPut h m s) m 6 27 = some (some (m + 25)) := rdR_of (xat_m0 ok) rfl
theorem ma_into {h : xH} {m : Nat} {s : mS} (ok : mOk h m) {j : Nat} (hj : j < 4) : rdA 0 (mPut h m s) (m + 25) (nI j) = some (s 27 j) := rdA_of (xat_mk ok 25 (by decide)) hj (by decide)
theorem mw_into {h : xH} {m : Nat} {s : mS} (ok : mOk h m) {j : Nat} (hj : j < 4) (v : Int32) : wrI (mPut h m s) (m + 25) (nI j) v = some (mPut h m (sS s 27 j v)) := by
  rw [wrI_of (xat_mk ok 25 (by decide)) hj (by decide), ← sS_upd s 27 j v]
  refine congrArg some ?_
  exact mPut_set (k := 25) (s' := sS s 27 j v) ok (by decide) (fun i hi hn => mCell_ar (by decide) rfl hi hn)
theorem mr_callNumber {h : xH} {m : Nat} {s : mS} (ok : mOk h m) : rdR (mPut h m s) m 6 28 = some (some (m + 26)) := rdR_of (xat_m0 ok) rfl
theorem ma_callNumber {h : xH} {m : Nat} {s : mS} (ok : mOk h m) {j : Nat} (hj : j < 4) : rdA 0 (mPut h m s) (m + 26) (nI j) = some (s 28 j) := rdA_of (xat_mk ok 26 (by decide)) hj (by decide)
theorem mw_callNumber {h : xH} {m : Nat} {s : mS} (ok : mOk h m) {j : Nat} (hj : j < 4) (v : Int32) : wrI (mPut h m s) (m + 26) (nI j) v = some (mPut h m (sS s 28 j v)) := by
  rw [wrI_of (xat_mk ok 26 (by decide)) hj (by decide), ← sS_upd s 28 j v]
  refine congrArg some ?_
  exact mPut_set (k := 26) (s' := sS s 28 j v) ok (by decide) (fun i hi hn => mCell_ar (by decide) rfl hi hn)
theorem mr_caller {h : xH} {m : Nat} {s : mS} (ok : mOk h m) : rdR (mPut h m s) m 6 29 = some (some (m + 27)) := rdR_of (xat_m0 ok) rfl
theorem ma_caller {h : xH} {m : Nat} {s : mS} (ok : mOk h m) {j : Nat} (hj : j < 4) : rdA 0 (mPut h m s) (m + 27) (nI j) = some (s 29 j) := rdA_of (xat_mk ok 27 (by decide)) hj (by decide)
theorem mw_caller {h : xH} {m : Nat} {s : mS} (ok : mOk h m) {j : Nat} (hj : j < 4) (v : Int32) : wrI (mPut h m s) (m + 27) (nI j) v = some (mPut h m (sS s 29 j v)) := by
  rw [wrI_of (xat_mk ok 27 (by decide)) hj (by decide), ← sS_upd s 29 j v]
  refine congrArg some ?_
  exact mPut_set (k := 27) (s' := sS s 29 j v) ok (by decide) (fun i hi hn => mCell_ar (by decide) rfl hi hn)
theorem mr_callerNumber {h : xH} {m : Nat} {s : mS} (ok : mOk h m) : rdR (mPut h m s) m 6 30 = some (some (m + 28)) := rdR_of (xat_m0 ok) rfl
theorem ma_callerNumber {h : xH} {m : Nat} {s : mS} (ok : mOk h m) {j : Nat} (hj : j < 4) : rdA 0 (mPut h m s) (m + 28) (nI j) = some (s 30 j) := rdA_of (xat_mk ok 28 (by decide)) hj (by decide)
theorem mw_callerNumber {h : xH} {m : Nat} {s : mS} (ok : mOk h m) {j : Nat} (hj : j < 4) (v : Int32) : wrI (mPut h m s) (m + 28) (nI j) v = some (mPut h m (sS s 30 j v)) := by
  rw [wrI_of (xat_mk ok 28 (by decide)) hj (by decide), ← sS_upd s 30 j v]
  refine congrArg some ?_
  exact mPut_set (k := 28) (s' := sS s 30 j v) ok (by decide) (fun i hi hn => mCell_ar (by decide) rfl hi hn)
theorem mr_clock {h : xH} {m : Nat} {s : mS} (ok : mOk h m) : rdI (mPut h m s) m 6 31 = some (s 31 0) := rdI_of (xat_m0 ok) rfl
theorem mw_clock {h : xH} {m : Nat} {s : mS} (ok : mOk h m) (v : Int32) : xwr (mPut h m s) m 6 31 (.int v) = some (mPut h m (sS s 31 0 v)) := by
  rw [xwr_of (xat_m0 ok) (Nat.le_of_ble_eq_true rfl)]
  refine congrArg some ?_
  exact mPut_set (k := 0) (s' := sS s 31 0 v) ok (by decide) (fun j hj hn => mCell_sc (by decide) hj hn)
theorem mr_pile {h : xH} {m : Nat} {s : mS} (ok : mOk h m) : rdR (mPut h m s) m 6 32 = some (some (m + 29)) := rdR_of (xat_m0 ok) rfl
theorem ma_pile {h : xH} {m : Nat} {s : mS} (ok : mOk h m) {j : Nat} (hj : j < 1200) : rdA 0 (mPut h m s) (m + 29) (nI j) = some (s 32 j) := rdA_of (xat_mk ok 29 (by decide)) hj (by decide)
theorem mw_pile {h : xH} {m : Nat} {s : mS} (ok : mOk h m) {j : Nat} (hj : j < 1200) (v : Int32) : wrI (mPut h m s) (m + 29) (nI j) v = some (mPut h m (sS s 32 j v)) := by
  rw [wrI_of (xat_mk ok 29 (by decide)) hj (by decide), ← sS_upd s 32 j v]
  refine congrArg some ?_
  exact mPut_set (k := 29) (s' := sS s 32 j v) ok (by decide) (fun i hi hn => mCell_ar (by decide) rfl hi hn)
theorem mr_piled {h : xH} {m : Nat} {s : mS} (ok : mOk h m) : rdI (mPut h m s) m 6 33 = some (s 33 0) := rdI_of (xat_m0 ok) rfl
theorem mw_piled {h : xH} {m : Nat} {s : mS} (ok : mOk h m) (v : Int32) : xwr (mPut h m s) m 6 33 (.int v) = some (mPut h m (sS s 33 0 v)) := by
  rw [xwr_of (xat_m0 ok) (Nat.le_of_ble_eq_true rfl)]
  refine congrArg some ?_
  exact mPut_set (k := 0) (s' := sS s 33 0 v) ok (by decide) (fun j hj hn => mCell_sc (by decide) hj hn)
theorem mr_block {h : xH} {m : Nat} {s : mS} (ok : mOk h m) : rdR (mPut h m s) m 6 34 = some (some (m + 30)) := rdR_of (xat_m0 ok) rfl
theorem ma_block {h : xH} {m : Nat} {s : mS} (ok : mOk h m) {j : Nat} (hj : j < 16) : rdA 0 (mPut h m s) (m + 30) (nI j) = some (s 34 j) := rdA_of (xat_mk ok 30 (by decide)) hj (by decide)
theorem mw_block {h : xH} {m : Nat} {s : mS} (ok : mOk h m) {j : Nat} (hj : j < 16) (v : Int32) : wrI (mPut h m s) (m + 30) (nI j) v = some (mPut h m (sS s 34 j v)) := by
  rw [wrI_of (xat_mk ok 30 (by decide)) hj (by decide), ← sS_upd s 34 j v]
  refine congrArg some ?_
  exact mPut_set (k := 30) (s' := sS s 34 j v) ok (by decide) (fun i hi hn => mCell_ar (by decide) rfl hi hn)
theorem mr_cells {h : xH} {m : Nat} {s : mS} (ok : mOk h m) : rdR (mPut h m s) m 6 35 = some (some (m + 31)) := rdR_of (xat_m0 ok) rfl
theorem ma_cells {h : xH} {m : Nat} {s : mS} (ok : mOk h m) {j : Nat} (hj : j < 50) : rdA 0 (mPut h m s) (m + 31) (nI j) = some (s 35 j) := rdA_of (xat_mk ok 31 (by decide)) hj (by decide)
theorem mw_cells {h : xH} {m : Nat} {s : mS} (ok : mOk h m) {j : Nat} (hj : j < 50) (v : Int32) : wrI (mPut h m s) (m + 31) (nI j) v = some (mPut h m (sS s 35 j v)) := by
  rw [wrI_of (xat_mk ok 31 (by decide)) hj (by decide), ← sS_upd s 35 j v]
  refine congrArg some ?_
  exact mPut_set (k := 31) (s' := sS s 35 j v) ok (by decide) (fun i hi hn => mCell_ar (by decide) rfl hi hn)
theorem mr_reads {h : xH} {m : Nat} {s : mS} (ok : mOk h m) : rdI (mPut h m s) m 6 36 = some (s 36 0) := rdI_of (xat_m0 ok) rfl
theorem mw_reads {h : xH} {m : Nat} {s : mS} (ok : mOk h m) (v : Int32) : xwr (mPut h m s) m 6 36 (.int v) = some (mPut h m (sS s 36 0 v)) := by
  rw [xwr_of (xat_m0 ok) (Nat.le_of_ble_eq_true rfl)]
  refine congrArg some ?_
  exact mPut_set (k := 0) (s' := sS s 36 0 v) ok (by decide) (fun j hj hn => mCell_sc (by decide) hj hn)
theorem mr_writes {h : xH} {m : Nat} {s : mS} (ok : mOk h m) : rdI (mPut h m s) m 6 37 = some (s 37 0) := rdI_of (xat_m0 ok) rfl
theorem mw_writes {h : xH} {m : Nat} {s : mS} (ok : mOk h m) (v : Int32) : xwr (mPut h m s) m 6 37 (.int v) = some (mPut h m (sS s 37 0 v)) := by
  rw [xwr_of (xat_m0 ok) (Nat.le_of_ble_eq_true rfl)]
  refine congrArg some ?_
  exact mPut_set (k := 0) (s' := sS s 37 0 v) ok (by decide) (fun j hj hn => mCell_sc (by decide) hj hn)
theorem mr_at {h : xH} {m : Nat} {s : mS} (ok : mOk h m) : rdI (mPut h m s) m 6 38 = some (s 38 0) := rdI_of (xat_m0 ok) rfl
theorem mw_at {h : xH} {m : Nat} {s : mS} (ok : mOk h m) (v : Int32) : xwr (mPut h m s) m 6 38 (.int v) = some (mPut h m (sS s 38 0 v)) := by
  rw [xwr_of (xat_m0 ok) (Nat.le_of_ble_eq_true rfl)]
  refine congrArg some ?_
  exact mPut_set (k := 0) (s' := sS s 38 0 v) ok (by decide) (fun j hj hn => mCell_sc (by decide) hj hn)
theorem mr_cap {h : xH} {m : Nat} {s : mS} (ok : mOk h m) : rdI (mPut h m s) m 6 39 = some (s 39 0) := rdI_of (xat_m0 ok) rfl
theorem mw_cap {h : xH} {m : Nat} {s : mS} (ok : mOk h m) (v : Int32) : xwr (mPut h m s) m 6 39 (.int v) = some (mPut h m (sS s 39 0 v)) := by
  rw [xwr_of (xat_m0 ok) (Nat.le_of_ble_eq_true rfl)]
  refine congrArg some ?_
  exact mPut_set (k := 0) (s' := sS s 39 0 v) ok (by decide) (fun j hj hn => mCell_sc (by decide) hj hn)
theorem mr_goal {h : xH} {m : Nat} {s : mS} (ok : mOk h m) : rdI (mPut h m s) m 6 40 = some (s 40 0) := rdI_of (xat_m0 ok) rfl
theorem mw_goal {h : xH} {m : Nat} {s : mS} (ok : mOk h m) (v : Int32) : xwr (mPut h m s) m 6 40 (.int v) = some (mPut h m (sS s 40 0 v)) := by
  rw [xwr_of (xat_m0 ok) (Nat.le_of_ble_eq_true rfl)]
  refine congrArg some ?_
  exact mPut_set (k := 0) (s' := sS s 40 0 v) ok (by decide) (fun j hj hn => mCell_sc (by decide) hj hn)
theorem mr_slotSaid {h : xH} {m : Nat} {s : mS} (ok : mOk h m) : rdR (mPut h m s) m 6 41 = some (some (m + 32)) := rdR_of (xat_m0 ok) rfl
theorem ma_slotSaid {h : xH} {m : Nat} {s : mS} (ok : mOk h m) {j : Nat} (hj : j < 4) : rdA 0 (mPut h m s) (m + 32) (nI j) = some (s 41 j) := rdA_of (xat_mk ok 32 (by decide)) hj (by decide)
theorem mw_slotSaid {h : xH} {m : Nat} {s : mS} (ok : mOk h m) {j : Nat} (hj : j < 4) (v : Int32) : wrI (mPut h m s) (m + 32) (nI j) v = some (mPut h m (sS s 41 j v)) := by
  rw [wrI_of (xat_mk ok 32 (by decide)) hj (by decide), ← sS_upd s 41 j v]
  refine congrArg some ?_
  exact mPut_set (k := 32) (s' := sS s 41 j v) ok (by decide) (fun i hi hn => mCell_ar (by decide) rfl hi hn)
