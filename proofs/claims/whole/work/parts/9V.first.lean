/-! THE FIRST STATE, as the law finds it. -/
theorem idx_47 : ∀ q ∈ idxL, q.2.2 < 47 := by decide +kernel
theorem W0_none {b a : Nat} (h : b + 47 ≤ a) : kA (W0 b) a = none := by
  show (if b ≤ a then idxA idxL (a - b) else none) = none
  rw [if_pos (by omega)]
  cases e : idxA idxL (a - b) with
  | none => rfl
  | some d =>
    have := idx_47 _ (idxA_mem e)
    dsimp only at this
    omega
theorem eP_len (z : xzs) (b : Nat) : (eP z b).length = 47 := rfl
/-- the heap behind both constructors -/
def hM0 (z : xzs) (b : Nat) : xH := mPut (mFin b 437 (eP z b)) (b + 47) mSn
/-- and behind the law's own array -/
def hO0 (z : xzs) (b : Nat) : xH := xpush (hM0 z b) 1 (.inl (5, 1, .inr (.inl (fun _ => 0))))
theorem mFin_ok0 (z : xzs) (b : Nat) : mOk (mFin b 437 (eP z b)) (b + 47) := mFin_ok b 437 (eP z b)
theorem hM0_n (z : xzs) (b : Nat) : xn (hM0 z b) = b + 80 := by
  unfold hM0
  rw [mPut_n]
  unfold mFin
  rw [nH_n, eP_len]
  show b + 47 + 1 + 32 = b + 80
  omega
theorem hM0_at {z : xzs} {b i : Nat} (hi : i < 47) : xat (hM0 z b) (b + i) = (eP z b)[i]? := by
  unfold hM0
  rw [xat_mPut (mFin_ok0 z b), if_neg (by omega)]
  unfold mFin nH xat
  dsimp only
  rw [if_neg (by omega), Nat.add_sub_cancel_left, List.getElem?_append_left (by rw [eP_len]; exact hi)]
theorem lInv_0 {z : xzs} {b : Nat} (hz : z.1 < b) : lInv z b (b + 47) (b + 80) 0 (hO0 z b) := by
  have hn := hM0_n z b
  have hO : ∀ a, xat (hO0 z b) a = if a = b + 80 then some (.inl (5, 1, .inr (.inl (fun _ => 0)))) else xat (hM0 z b) a := fun a => by
    unfold hO0
    rw [xat_push, hn]
  have hOn : xn (hO0 z b) = b + 81 := by
    unfold hO0
    rw [xn_push, hn]
  have hO1 : (hO0 z b).1 = b := rfl
  have hmok : mOk (hO0 z b) (b + 47) := ⟨by rw [hO1]; omega, by rw [hOn]; omega⟩
  refine ⟨W0 b, 10, c0, mSn, 12, rfl, W0_ok rfl (by rw [hOn]; omega), ?_, hmok, ?_, jS_0 b, fun a h1 h2 => W0_none h1, W0_none (by omega), by omega, ⟨_, by rw [hO, if_pos rfl]⟩, Nat.le_refl _, Nat.le_refl _, hz, by rw [hOn, hO1]; omega, ?_⟩
  · refine xH_ext rfl rfl fun a => ?_
    rw [xat_k]
    cases e : kA (W0 b) a with
    | none =>
      cases xat (hO0 z b) a <;> rfl
    | some d =>
      have hd : (if b ≤ a then idxA idxL (a - b) else none) = some d := e
      split at hd
      · rename_i hb
        have h47 := idx_47 _ (idxA_mem hd)
        dsimp only at h47
        obtain ⟨i, rfl⟩ : ∃ i, a = b + i := ⟨a - b, by omega⟩
        rw [Nat.add_sub_cancel_left] at hd h47
        rw [hO, if_neg (by omega), hM0_at h47, eP_at z b i d hd]
        rfl
      · cases hd
  · refine xH_ext rfl rfl fun a => ?_
    rw [xat_mPut hmok]
    split
    · rename_i h1
      rw [hO, if_neg (by omega)]
      unfold hM0
      rw [xat_mPut (mFin_ok0 z b), if_pos h1]
    · rfl
  · show (437 + 8034) + 1 ≤ 30000 + 2100 * 0
    omega
