/-! The reference: its constructor, whole. -/
section NI
variable {z : xzs}
theorem sc_1200 : (Int16.ofInt 1200).toInt32 = nI 1200 := by decide
theorem sc_400n : (Int16.ofInt 400).toInt32 = nI 400 := by decide
theorem bc_50n : (Int8.ofInt 50).toInt32 = nI 50 := by decide
theorem bc_16n : (Int8.ofInt 16).toInt32 = nI 16 := by decide
theorem bc_10n : (Int8.ofInt 10).toInt32 = nI 10 := by decide
theorem nH_st {b u : Nat} {L : List va_E} {fs : List Value} {as : List va_E} (kd f k : Nat) {n : Nat} {body : xH → Option xR} (hn : n ≤ 100000) (hf : f < fs.length) (hk : as.length = k) : ((xnarI (nH b u L fs as) kd (nI n)).bind fun qa => xlet qa.1 qa.2 fun a h2 => (xwr h2 (b + L.length) 6 f (va_rf (some a))).bind body) = body (nH b (u + n) L (fs.set f (.ref (b + L.length + (k + 1)))) (as ++ [.inl (kd, n, .inl (fun _ => 0))])) := by
  rw [nH_new _ _ _ _ _ _ hn]
  show (xwr (nH b (u + n) L fs (as ++ [.inl (kd, n, .inl (fun _ => 0))])) (b + L.length) 6 f (.ref (b + L.length + 1 + as.length))).bind body = _
  rw [nH_set _ _ _ _ _ hf, hk, Option.bind_some, show b + L.length + 1 + k = b + L.length + (k + 1) by omega]
theorem nH_sw {b u : Nat} {L : List va_E} {fs : List Value} {as : List va_E} (f : Nat) (v : Value) {body : xH → Option xR} (hf : f < fs.length) : ((xwr (nH b u L fs as) (b + L.length) 6 f v).bind body) = body (nH b u L (fs.set f v) as) := by
  rw [nH_set _ _ _ _ _ hf, Option.bind_some]
/-- a new reference's fields, before its constructor -/
def mF0 : List Value := [.int 0, .null, .null, .null, .null, .null, .null, .int 0, .null, .null, .null, .null, .null, .int 0, .null, .null, .null, .null, .null, .null, .null, .null, .null, .null, .null, .null, .null, .null, .null, .null, .null, .int 0, .null, .int 0, .null, .null, .int 0, .int 0, .int 0, .int 0, .int 0, .null]
theorem mF0_len : mF0.length = 42 := rfl
def mS1 : mS := sS (sS (sS (sS (sS (sS (sS (sS mS0 1 8 1) 1 9 (nI 2)) 6 8 1) 6 9 1) 1 0 1) 1 1 1) 6 0 1) 6 1 1
def mSn : mS := mNewS (mNewS (mNewS mS1 0 1) 4 2) 8 3
def nAs : List va_E := [mCell 0 mS0 1, mCell 0 mS0 2, mCell 0 mS0 3, mCell 0 mS0 4, mCell 0 mS0 5, mCell 0 mS0 6, mCell 0 mS0 7, mCell 0 mS0 8, mCell 0 mS0 9, mCell 0 mS0 10, mCell 0 mS0 11, mCell 0 mS0 12, mCell 0 mS0 13, mCell 0 mS0 14, mCell 0 mS0 15, mCell 0 mS0 16, mCell 0 mS0 17, mCell 0 mS0 18, mCell 0 mS0 19, mCell 0 mS0 20, mCell 0 mS0 21, mCell 0 mS0 22, mCell 0 mS0 23, mCell 0 mS0 24, mCell 0 mS0 25, mCell 0 mS0 26, mCell 0 mS0 27, mCell 0 mS0 28, mCell 0 mS0 29, mCell 0 mS0 30, mCell 0 mS0 31, mCell 0 mS0 32]
theorem nAs_at (m k : Nat) (hk : k < 32) : nAs[k]? = some (mCell m mS0 (k + 1)) := by
  match k, hk with
  | 0, _ => rfl
  | 1, _ => rfl
  | 2, _ => rfl
  | 3, _ => rfl
  | 4, _ => rfl
  | 5, _ => rfl
  | 6, _ => rfl
  | 7, _ => rfl
  | 8, _ => rfl
  | 9, _ => rfl
  | 10, _ => rfl
  | 11, _ => rfl
  | 12, _ => rfl
  | 13, _ => rfl
  | 14, _ => rfl
  | 15, _ => rfl
  | 16, _ => rfl
  | 17, _ => rfl
  | 18, _ => rfl
  | 19, _ => rfl
  | 20, _ => rfl
  | 21, _ => rfl
  | 22, _ => rfl
  | 23, _ => rfl
  | 24, _ => rfl
  | 25, _ => rfl
  | 26, _ => rfl
  | 27, _ => rfl
  | 28, _ => rfl
  | 29, _ => rfl
  | 30, _ => rfl
  | 31, _ => rfl
  | k + 32, h => exact absurd h (by omega)
def mFin (b u : Nat) (L : List va_E) : xH := nH b (u + 8034) L (mFs (b + L.length) mS0) nAs
theorem mFin_ok (b u : Nat) (L : List va_E) : mOk (mFin b u L) (b + L.length) := ⟨Nat.le_add_right _ _, by rw [mFin, nH_n]; show b + L.length + 33 ≤ b + L.length + 1 + 32; omega⟩
theorem t_M_new0 (b u : Nat) (L : List va_E) {r : xR} (hend : B_M_new_323 z (b + L.length) 1 (mPut (mFin b u L) (b + L.length) mS1) = some r) : D_M_new_0 z (b + L.length) (nH b u L mF0 []) = some r := by
  have ok := mFin_ok b u L
  unfold D_M_new_0
  simp only [sc_1200, sc_400n, bc_50n, bc_16n, bc_10n, ic_4, ic_3, bc_8, bc_9, ic_1, ic_2, ic_0]
  rw [nH_st 0 1 0 (by decide) (by simp only [List.length_set, mF0_len]; decide) (by rfl)]
  rw [nH_st 0 2 1 (by decide) (by simp only [List.length_set, mF0_len]; decide) (by rfl)]
  rw [nH_st 0 3 2 (by decide) (by simp only [List.length_set, mF0_len]; decide) (by rfl)]
  rw [nH_st 0 4 3 (by decide) (by simp only [List.length_set, mF0_len]; decide) (by rfl)]
  rw [nH_st 0 5 4 (by decide) (by simp only [List.length_set, mF0_len]; decide) (by rfl)]
  rw [nH_st 1 6 5 (by decide) (by simp only [List.length_set, mF0_len]; decide) (by rfl)]
  rw [nH_sw 7 _ (by simp only [List.length_set, mF0_len]; decide)]
  rw [nH_st 0 8 6 (by decide) (by simp only [List.length_set, mF0_len]; decide) (by rfl)]
  rw [nH_st 0 9 7 (by decide) (by simp only [List.length_set, mF0_len]; decide) (by rfl)]
  rw [nH_st 0 10 8 (by decide) (by simp only [List.length_set, mF0_len]; decide) (by rfl)]
  rw [nH_st 0 11 9 (by decide) (by simp only [List.length_set, mF0_len]; decide) (by rfl)]
  rw [nH_st 1 12 10 (by decide) (by simp only [List.length_set, mF0_len]; decide) (by rfl)]
  rw [nH_st 0 14 11 (by decide) (by simp only [List.length_set, mF0_len]; decide) (by rfl)]
  rw [nH_st 0 15 12 (by decide) (by simp only [List.length_set, mF0_len]; decide) (by rfl)]
  rw [nH_st 0 16 13 (by decide) (by simp only [List.length_set, mF0_len]; decide) (by rfl)]
  rw [nH_st 0 17 14 (by decide) (by simp only [List.length_set, mF0_len]; decide) (by rfl)]
  rw [nH_st 0 18 15 (by decide) (by simp only [List.length_set, mF0_len]; decide) (by rfl)]
  rw [nH_st 0 19 16 (by decide) (by simp only [List.length_set, mF0_len]; decide) (by rfl)]
  rw [nH_st 0 20 17 (by decide) (by simp only [List.length_set, mF0_len]; decide) (by rfl)]
  rw [nH_st 0 21 18 (by decide) (by simp only [List.length_set, mF0_len]; decide) (by rfl)]
  rw [nH_st 0 22 19 (by decide) (by simp only [List.length_set, mF0_len]; decide) (by rfl)]
  rw [nH_st 0 23 20 (by decide) (by simp only [List.length_set, mF0_len]; decide) (by rfl)]
  rw [nH_st 0 24 21 (by decide) (by simp only [List.length_set, mF0_len]; decide) (by rfl)]
  rw [nH_st 0 25 22 (by decide) (by simp only [List.length_set, mF0_len]; decide) (by rfl)]
  rw [nH_st 0 26 23 (by decide) (by simp only [List.length_set, mF0_len]; decide) (by rfl)]
  rw [nH_st 0 27 24 (by decide) (by simp only [List.length_set, mF0_len]; decide) (by rfl)]
  rw [nH_st 0 28 25 (by decide) (by simp only [List.length_set, mF0_len]; decide) (by rfl)]
  rw [nH_st 0 29 26 (by decide) (by simp only [List.length_set, mF0_len]; decide) (by rfl)]
  rw [nH_st 0 30 27 (by decide) (by simp only [List.length_set, mF0_len]; decide) (by rfl)]
  rw [nH_sw 31 _ (by simp only [List.length_set, mF0_len]; decide)]
  rw [nH_st 0 32 28 (by decide) (by simp only [List.length_set, mF0_len]; decide) (by rfl)]
  rw [nH_st 0 34 29 (by decide) (by simp only [List.length_set, mF0_len]; decide) (by rfl)]
  rw [nH_st 0 35 30 (by decide) (by simp only [List.length_set, mF0_len]; decide) (by rfl)]
  rw [nH_st 0 41 31 (by decide) (by simp only [List.length_set, mF0_len]; decide) (by rfl)]
  have e : ∀ fs as, fs = mFs (b + L.length) mS0 → as = nAs → nH b (u + 50 + 50 + 50 + 50 + 50 + 50 + 1200 + 1200 + 1200 + 1200 + 1200 + 400 + 4 + 4 + 4 + 4 + 4 + 4 + 4 + 4 + 4 + 4 + 4 + 4 + 4 + 4 + 4 + 4 + 1200 + 16 + 50 + 4) L fs as = mPut (mFin b u L) (b + L.length) mS0 := by
    intro fs as h1 h2
    subst h1 h2
    rw [show u + 50 + 50 + 50 + 50 + 50 + 50 + 1200 + 1200 + 1200 + 1200 + 1200 + 400 + 4 + 4 + 4 + 4 + 4 + 4 + 4 + 4 + 4 + 4 + 4 + 4 + 4 + 4 + 4 + 4 + 1200 + 16 + 50 + 4 = u + 8034 by omega]
    exact nH_put b _ L _ nAs mS0 rfl rfl (fun k hk => nAs_at _ k hk)
  rw [e]
  rotate_left
  · simp only [mF0, List.set_cons_succ, List.set_cons_zero]
    rfl
  · simp only [List.nil_append, List.cons_append]
    rfl
  simp only [mr_kind ok, mr_there ok, Option.bind_some, mw_kind ok (show 8 < 50 by decide), mw_kind ok (show 9 < 50 by decide), mw_there ok (show 8 < 50 by decide), mw_there ok (show 9 < 50 by decide)]
  have w0 : ∀ s : mS, wrI (mPut (mFin b u L) (b + L.length) s) (b + L.length + 1) 0 1 = some (mPut (mFin b u L) (b + L.length) (sS s 1 0 1)) := fun s => mw_kind ok (j := 0) (by decide) 1
  have w1 : ∀ s : mS, wrI (mPut (mFin b u L) (b + L.length) s) (b + L.length + 1) 1 1 = some (mPut (mFin b u L) (b + L.length) (sS s 1 1 1)) := fun s => mw_kind ok (j := 1) (by decide) 1
  have w2 : ∀ s : mS, wrZ (mPut (mFin b u L) (b + L.length) s) (b + L.length + 6) 0 1 = some (mPut (mFin b u L) (b + L.length) (sS s 6 0 1)) := fun s => by have q := mw_there (s := s) ok (j := 0) (by decide) 1; rw [nar_b1] at q; exact q
  have w3 : ∀ s : mS, wrZ (mPut (mFin b u L) (b + L.length) s) (b + L.length + 6) 1 1 = some (mPut (mFin b u L) (b + L.length) (sS s 6 1 1)) := fun s => by have q := mw_there (s := s) ok (j := 1) (by decide) 1; rw [nar_b1] at q; exact q
  simp only [mr_kind ok, mr_there ok, Option.bind_some, w0, w1, w2, w3, nar_b1]
  exact hend
theorem t_M_new (b u : Nat) (L : List va_E) : f_M_new z [.ref (b + L.length)] (nH b u L mF0 []) = some (.inl none, mPut (mFin b u L) (b + L.length) mSn) :=
  E_M_new z _ _ _ (t_M_new0 b u L (t_new323 (mFin_ok b u L) rfl))
end NI
