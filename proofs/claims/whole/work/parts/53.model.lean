/-! The reference: count. -/
section MY
variable {z : xzs} {h : xH} {m : Nat} {s : mS}
def mLv (s : mS) : Nat → Nat
  | 0 => 0
  | k + 1 => if s 12 (k + 1) = 0 then mLv s k else mLv s k + 1
def mTh (s : mS) : Nat → Nat
  | 0 => 0
  | k + 1 => if s 6 (10 + k) = 0 then mTh s k else mTh s k + 1
def mFr (s : mS) : Nat → Nat
  | 0 => 0
  | k + 1 => if mTkn s (k + 1) 16 0 = 0 then mFr s k + 1 else mFr s k
def mCntF (s : mS) (w v : Int32) : Int32 := if w = 1 then s 7 0 - nI 10 else if w = nI 3 then s 36 0 else if w = nI 4 then s 37 0 else if w < 0 ∨ nI 5 < w then -1 else v
def mCntV (s : mS) (n x : Nat) (w : Int32) : Int32 := mCntF s w (nI (if w = 0 then mLv s n else if w = nI 2 then mTh s (x - 10) else if w = nI 5 then mFr s 6 else 0))
theorem t_cnt186 (x : Int32) (H : xH) : B_M_count_186 z x H = some (.inl (some (.int x)), H) := E_M_count_186 z x H _ rfl
theorem t_cnt133 (ok : mOk h m) (w v : Int32) : B_M_count_133 z m w v (mPut h m s) = some (.inl (some (.int (mCntF s w v))), mPut h m s) := by
  refine E_M_count_133 z m _ _ _ _ ?_
  simp only [D_M_count_133, ic_1, ic_3, ic_4, ic_0, ic_5, ic_m1, bc_10, t_M_within, xclI_some, t_cnt186, mr_writes ok, mr_reads ok, mr_objects ok, Option.bind_some]
  unfold mCntF
  by_cases g1 : w = 1
  · rw [if_neg (fun q => q g1), if_pos g1]
  · rw [if_pos g1, if_neg g1]
    by_cases g3 : w = nI 3
    · rw [if_neg (fun q => q g3), if_pos g3]
    · rw [if_pos g3, if_neg g3]
      by_cases g4 : w = nI 4
      · rw [if_neg (fun q => q g4), if_pos g4]
      · rw [if_pos g4, if_neg g4]
        by_cases g5 : w < 0 ∨ nI 5 < w
        · rw [if_pos g5, if_pos g5, if_pos rfl]
        · rw [if_neg g5, if_neg g5, if_neg (by decide)]
theorem t_cnt113 {w v x : Int32} {d k : Nat} {r : xR} {H : xH} (hn : B_M_count_92 z m w v (nI d) x (nI (k + 1)) H = some r) : B_M_count_113 z m w v (nI d) x (nI k) H = some r := by
  refine E_M_count_113 z m _ _ _ _ _ _ _ ?_
  unfold D_M_count_113
  rw [ic_1n, nI_add]
  exact hn
theorem t_cnt92 (ok : mOk h m) {w v : Int32} {d : Nat} {r : xR} (hend : B_M_count_92 z m w v (nI d) (mTkn s d 16 0) (nI 16) (mPut h m s) = some r) : ∀ (j k : Nat), k + j = 16 → B_M_count_92 z m w v (nI d) (mTkn s d k 0) (nI k) (mPut h m s) = some r
  | 0, k, e => by
    obtain rfl : k = 16 := by omega
    exact hend
  | j + 1, k, e => by
    have hk : k < 16 := by omega
    refine E_M_count_92 z m _ _ _ _ _ _ _ ?_
    simp only [D_M_count_92, bc_16, mr_block ok, ma_block ok hk, Option.bind_some, ic_1]
    rw [if_neg (nI_ge hk (by decide))]
    have ih := t_cnt92 ok hend j (k + 1) (by omega)
    unfold mTkn at ih
    by_cases g : s 34 k = nI d
    · rw [if_pos g] at ih
      rw [if_neg (fun w => w g)]
      exact t_cnt113 ih
    · rw [if_neg g] at ih
      rw [if_pos g]
      exact t_cnt113 ih
theorem t_cnt127 {w v : Int32} {k : Nat} {r : xR} {H : xH} (hn : B_M_count_75 z m w v (nI (k + 1)) H = some r) : B_M_count_127 z m w v (nI k) H = some r := by
  refine E_M_count_127 z m _ _ _ _ _ ?_
  unfold D_M_count_127
  rw [ic_1n, nI_add]
  exact hn
theorem t_cnt75 (ok : mOk h m) (v : Nat) : ∀ (j k : Nat), k + j = 6 → B_M_count_75 z m (nI 5) (nI (v + mFr s k)) (nI (k + 1)) (mPut h m s) = some (.inl (some (.int (mCntF s (nI 5) (nI (v + mFr s 6))))), mPut h m s)
  | 0, k, e => by
    obtain rfl : k = 6 := by omega
    refine E_M_count_75 z m _ _ _ _ _ ?_
    unfold D_M_count_75
    rw [bc_7, if_pos (by decide), t_cnt133 ok]
  | j + 1, k, e => by
    refine E_M_count_75 z m _ _ _ _ _ ?_
    unfold D_M_count_75
    rw [bc_7, if_neg (nI_ge (by omega) (by decide)), ic_5, if_neg (fun w => w rfl), ic_0]
    refine t_cnt92 ok ?_ 16 0 rfl
    refine E_M_count_92 z m _ _ _ _ _ _ _ ?_
    simp only [D_M_count_92, bc_16]
    rw [if_pos (by decide)]
    have ih := t_cnt75 ok v j (k + 1) (by omega)
    unfold mFr at ih
    by_cases g : mTkn s (k + 1) 16 0 = 0
    · rw [if_pos g] at ih
      rw [if_neg (fun w => w g), ic_1n, nI_add]
      exact t_cnt127 ih
    · rw [if_neg g] at ih
      rw [if_pos g]
      exact t_cnt127 ih
theorem t_cnt73 (ok : mOk h m) (w : Int32) (v : Nat) : B_M_count_73 z m w (nI v) (mPut h m s) = some (.inl (some (.int (mCntF s w (nI (if w = nI 5 then v + mFr s 6 else v))))), mPut h m s) := by
  refine E_M_count_73 z m _ _ _ _ ?_
  unfold D_M_count_73
  rw [ic_1n]
  by_cases g : w = nI 5
  · rw [if_pos g, g]
    exact t_cnt75 ok v 6 0 rfl
  · rw [if_neg g]
    refine E_M_count_75 z m _ _ _ _ _ ?_
    unfold D_M_count_75
    rw [bc_7, if_neg (by decide), ic_5, if_pos g, t_cnt133 ok]
theorem t_cnt67 {w v : Int32} {k : Nat} {r : xR} {H : xH} (hn : B_M_count_42 z m w v (nI (k + 1)) H = some r) : B_M_count_67 z m w v (nI k) H = some r := by
  refine E_M_count_67 z m _ _ _ _ _ ?_
  unfold D_M_count_67
  rw [ic_1n, nI_add]
  exact hn
theorem t_cnt42 (ok : mOk h m) {x : Nat} (h7 : s 7 0 = nI x) (hx : x ≤ 50) (v : Nat) {r : xR} (hend : B_M_count_73 z m (nI 2) (nI (v + mTh s (x - 10))) (mPut h m s) = some r) : ∀ (j k : Nat), k + j = x - 10 → B_M_count_42 z m (nI 2) (nI (v + mTh s k)) (nI (10 + k)) (mPut h m s) = some r
  | 0, k, e => by
    obtain rfl : k = x - 10 := by omega
    refine E_M_count_42 z m _ _ _ _ _ ?_
    simp only [D_M_count_42, mr_objects ok, h7, Option.bind_some]
    rw [if_pos (nI_le (by omega) (by omega))]
    exact hend
  | j + 1, k, e => by
    have hk : 10 + k < 50 := by omega
    refine E_M_count_42 z m _ _ _ _ _ ?_
    simp only [D_M_count_42, mr_objects ok, h7, Option.bind_some, ic_2, mr_there ok, ma_there ok hk, ic_1n, nI_add]
    rw [if_neg (nI_ge (by omega) (by omega)), if_neg (fun w => w trivial)]
    have ih := t_cnt42 ok h7 hx v hend j (k + 1) (by omega)
    unfold mTh at ih
    by_cases g : s 6 (10 + k) = 0
    · rw [if_pos g] at ih
      rw [if_pos g]
      exact t_cnt67 ih
    · rw [if_neg g] at ih
      rw [if_neg g]
      exact t_cnt67 ih
theorem t_cnt39 (ok : mOk h m) {x : Nat} (h7 : s 7 0 = nI x) (hx : x ≤ 50) (w : Int32) (v : Nat) : B_M_count_39 z m w (nI v) (mPut h m s) = some (.inl (some (.int (mCntF s w (nI (if w = nI 2 then v + mTh s (x - 10) else if w = nI 5 then v + mFr s 6 else v))))), mPut h m s) := by
  refine E_M_count_39 z m _ _ _ _ ?_
  unfold D_M_count_39
  rw [bc_10]
  by_cases g : w = nI 2
  · rw [if_pos g, g]
    refine t_cnt42 ok h7 hx v ?_ (x - 10) 0 (by omega)
    rw [t_cnt73 ok, if_neg (by decide)]
  · rw [if_neg g]
    refine E_M_count_42 z m _ _ _ _ _ ?_
    simp only [D_M_count_42, mr_objects ok, Option.bind_some, ic_2]
    rw [if_pos g, t_cnt73 ok]
    split <;> rfl
theorem t_cnt33 {w v : Int32} {k : Nat} {r : xR} {H : xH} (hn : B_M_count_9 z m w v (nI (k + 1)) H = some r) : B_M_count_33 z m w v (nI k) H = some r := by
  refine E_M_count_33 z m _ _ _ _ _ ?_
  unfold D_M_count_33
  rw [ic_1n, nI_add]
  exact hn
theorem t_cnt9 (ok : mOk h m) {n : Nat} (hm : s 13 0 = nI n) (hn : n < 1200) {r : xR} (hend : B_M_count_39 z m 0 (nI (mLv s n)) (mPut h m s) = some r) : ∀ (j k : Nat), k + j = n → B_M_count_9 z m 0 (nI (mLv s k)) (nI (k + 1)) (mPut h m s) = some r
  | 0, k, e => by
    obtain rfl : k = n := by omega
    refine E_M_count_9 z m _ _ _ _ _ ?_
    simp only [D_M_count_9, mr_made ok, hm, Option.bind_some]
    rw [if_pos (nI_lt (by omega) (by omega))]
    exact hend
  | j + 1, k, e => by
    have hk : k + 1 < 1200 := by omega
    refine E_M_count_9 z m _ _ _ _ _ ?_
    simp only [D_M_count_9, mr_made ok, hm, Option.bind_some, mr_lives ok, ma_lives ok hk, ic_1n, nI_add]
    rw [if_neg (nI_nlt (by omega) (by omega)), if_neg (fun w => w trivial)]
    have ih := t_cnt9 ok hm hn hend j (k + 1) (by omega)
    unfold mLv at ih
    by_cases g : s 12 (k + 1) = 0
    · rw [if_pos g] at ih
      rw [if_pos g]
      exact t_cnt33 ih
    · rw [if_neg g] at ih
      rw [if_neg g]
      exact t_cnt33 ih
theorem t_cnt0 (ok : mOk h m) {n x : Nat} (hm : s 13 0 = nI n) (hn : n < 1200) (h7 : s 7 0 = nI x) (hx : x ≤ 50) (w : Int32) : B_M_count_9 z m w (nI 0) (nI 1) (mPut h m s) = some (.inl (some (.int (mCntV s n x w))), mPut h m s) := by
  unfold mCntV
  by_cases g : w = 0
  · rw [if_pos g, g]
    refine t_cnt9 ok hm hn ?_ n 0 (by omega)
    rw [t_cnt39 ok h7 hx, if_neg (by decide), if_neg (by decide)]
  · rw [if_neg g]
    refine E_M_count_9 z m _ _ _ _ _ ?_
    have L := t_cnt39 (z := z) ok h7 hx w 0
    rw [Nat.zero_add, Nat.zero_add] at L
    simp only [D_M_count_9, mr_made ok, hm, Option.bind_some]
    rw [if_pos g, L]
    split <;> rfl
theorem t_M_count (ok : mOk h m) {n x : Nat} (hm : s 13 0 = nI n) (hn : n < 1200) (h7 : s 7 0 = nI x) (hx : x ≤ 50) (w : Int32) : mDone z h m (f_M_count z [.ref m, .int w] (mPut h m s)) (0, mCntV (sS s 0 0 0) n x w, s) := by
  refine ⟨sS s 0 0 0, E_M_count z m _ _ _ ?_, (mEq.rf s).sc (Or.inl rfl) 0 _, sS_same _ _ _ _⟩
  simp only [D_M_count_0, mw_code ok, Option.bind_some, ic_0]
  rw [ic_1n, ← nI_0]
  exact t_cnt0 (s := sS s 0 0 0) ok hm hn h7 hx w
end MY
