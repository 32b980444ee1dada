/-! The reference: names, free. -/
section MU
variable {z : xzs} {h : xH} {m : Nat} {s : mS}
theorem bc_100 : (Int8.ofInt 100).toInt32 = nI 100 := by decide
theorem bc_m2 : (Int8.ofInt (-2)).toInt32 = -2 := by decide
theorem bc_m3 : (Int8.ofInt (-3)).toInt32 = -3 := by decide
theorem bc_16 : (Int8.ofInt 16).toInt32 = nI 16 := by decide
theorem bc_13 : (Int8.ofInt 13).toInt32 = nI 13 := by decide
theorem bc_31 : (Int8.ofInt 31).toInt32 = nI 31 := by decide
/-- the name server: the answer and the state -/
def mNames (s : mS) (n t : Nat) (w b : Int32) : Int32 × mS := if w < 0 ∨ ¬ vN w / 100 = 1 then (-2, s) else if ¬ vN w % 100 < 72 then (-1, s) else match mPlace s t (vN w % 100) with
  | none => (-1, s)
  | some q => if s 14 q = 0 then (0, mPutC s n q 1 (nI 2) b 0) else (-1, s)
theorem t_nam12 (H : xH) : B_M_names_12 z H = some (.inl (some (.int (-2))), H) := by
  refine E_M_names_12 z H _ ?_
  unfold D_M_names_12
  rw [bc_m2]
theorem t_nam55 (H : xH) : B_M_names_55 z H = some (.inl (some (.int (-1))), H) := by
  refine E_M_names_55 z H _ ?_
  unfold D_M_names_55
  rw [ic_m1]
theorem t_nam41m (H : xH) {b : Int32} : B_M_names_41 z m b (-1) H = some (.inl (some (.int (-1))), H) := by
  refine E_M_names_41 z m _ _ _ _ ?_
  unfold D_M_names_41
  rw [if_pos (show (-1 : Int32) < 0 by decide), t_nam55]
theorem t_M_names (ok : mOk h m) (W : mWF s) {n t : Nat} {w b : Int32} (hm : s 13 0 = nI n) (hn : n + 1 < 1200) (ht : t < 4) (h38 : s 38 0 = nI t) : f_M_names z [.ref m, .int w, .int b] (mPut h m s) = some (.inl (some (.int (mNames s n t w b).1)), mPut h m (mNames s n t w b).2) := by
  refine E_M_names z m _ _ _ _ ?_
  unfold D_M_names_0 mNames
  by_cases h0 : w < 0
  · rw [if_pos h0, if_pos (Or.inl h0), t_nam12]
  · obtain ⟨j, hj, rfl⟩ := nI_of h0
    have vj : vN (nI j) = j := vN_nI hj
    have ed : nI j / nI 100 = nI (j / 100) := pk_div hj (by decide) (by decide)
    have er : nI j - nI j / nI 100 * nI 100 = nI (j % 100) := pk_rem hj (by decide) (by decide)
    have h100 : j % 100 < 100 := Nat.mod_lt _ (by decide)
    rw [if_neg h0, bc_100, er, ed, vj, ic_1n]
    by_cases h1 : j / 100 = 1
    · rw [if_pos (by rw [h1]), if_neg (by rintro (w | w); exact h0 w; exact w h1)]
      simp only [t_M_reaches, xclI_some, ic_m1]
      by_cases h2 : j % 100 < 72
      · rw [xif_ad h2, if_neg (by decide), if_neg (fun w => w h2)]
        simp only [mr_at ok, h38, Option.bind_some, xisO_m ok, t_M_place ok W ht h2, xclI_some]
        cases hp : mPlace s t (j % 100) with
        | none => exact t_nam41m _
        | some q =>
          have hq := mPlace_lt W ht h2 hp
          refine E_M_names_41 z m _ _ _ _ ?_
          obtain ⟨c, hc, hce⟩ : ∃ c, c < 1200 ∧ s 14 q = nI c := ⟨_, (W.1 _ hq).2, (W.1 _ hq).1⟩
          simp only [D_M_names_41, xpl, mr_slot ok, ma_slot ok hq, Option.bind_some, xisO_m ok, ic_1, ic_2, ic_0, t_M_put ok hm hn hq, xclI_some, hce]
          rw [if_neg (nI_pos (by omega))]
          by_cases h3 : c = 0
          · rw [if_pos (by rw [h3]; decide), if_pos (by rw [h3]; decide)]
          · rw [if_neg (nI_nle (by omega) (by omega)), if_neg (nI_ne0 (by omega) (by omega)), t_nam55]
      · have hb : (if nI (j % 100) < 0 ∨ nI 71 < nI (j % 100) then (0 : Int32) else 1) = 0 := if_pos (Or.inr (nI_lt (by omega) (by omega)))
        rw [hb, if_pos rfl, if_pos h2, t_nam41m]
    · rw [if_neg (fun w => h1 ((nI_eq (by omega) (by decide)).mp w)), if_pos (Or.inr h1), t_nam12]
-- free
/-- whether one of the first k files has block d -/
def mTkn (s : mS) (d : Nat) : Nat → Int32 → Int32
  | 0, x => x
  | k + 1, x => if s 34 k = nI d then 1 else mTkn s d k x
def mFreeN (s : mS) : Nat → Nat → Nat
  | 0, _ => 0
  | k + 1, d => if mTkn s d 16 0 = 0 then d else mFreeN s k (d + 1)
def mFree (s : mS) : Nat := mFreeN s 6 1
theorem t_free30 {d k : Nat} {x : Int32} {r : xR} {H : xH} (hn : B_M_free_12 z m (nI d) x (nI (k + 1)) H = some r) : B_M_free_30 z m (nI d) x (nI k) H = some r := by
  refine E_M_free_30 z m _ _ _ _ _ ?_
  unfold D_M_free_30
  rw [ic_1n, nI_add]
  exact hn
theorem t_free12 (ok : mOk h m) {d : Nat} {r : xR} (hend : B_M_free_12 z m (nI d) (mTkn s d 16 0) (nI 16) (mPut h m s) = some r) : ∀ (j k : Nat), k + j = 16 → B_M_free_12 z m (nI d) (mTkn s d k 0) (nI k) (mPut h m s) = some r
  | 0, k, e => by
    obtain rfl : k = 16 := by omega
    exact hend
  | j + 1, k, e => by
    have hk : k < 16 := by omega
    refine E_M_free_12 z m _ _ _ _ _ ?_
    simp only [D_M_free_12, bc_16, mr_block ok, ma_block ok hk, Option.bind_some, ic_1]
    rw [if_neg (nI_ge hk (by decide))]
    have ih := t_free12 ok hend j (k + 1) (by omega)
    unfold mTkn at ih
    by_cases g : s 34 k = nI d
    · rw [if_pos g] at ih
      rw [if_neg (fun w => w g)]
      exact t_free30 ih
    · rw [if_neg g] at ih
      rw [if_pos g]
      exact t_free30 ih
theorem t_free2 (ok : mOk h m) : ∀ (k d : Nat), d + k = 7 → B_M_free_2 z m (nI d) (mPut h m s) = some (.inl (some (.int (nI (mFreeN s k d)))), mPut h m s)
  | 0, d, e => by
    obtain rfl : d = 7 := by omega
    refine E_M_free_2 z m _ _ _ ?_
    unfold D_M_free_2
    rw [bc_7, if_pos (by decide), ic_0n]
    rfl
  | k + 1, d, e => by
    refine E_M_free_2 z m _ _ _ ?_
    unfold D_M_free_2
    rw [bc_7, if_neg (nI_ge (by omega) (by decide)), ic_0]
    refine t_free12 ok ?_ 16 0 rfl
    refine E_M_free_12 z m _ _ _ _ _ ?_
    simp only [D_M_free_12, bc_16]
    rw [if_pos (by decide)]
    unfold mFreeN
    by_cases g : mTkn s d 16 0 = 0
    · rw [if_neg (fun w => w g), if_pos g]
    · rw [if_pos g, if_neg g, ic_1n, nI_add]
      exact t_free2 ok k (d + 1) (by omega)
theorem t_M_free (ok : mOk h m) : f_M_free z [.ref m] (mPut h m s) = some (.inl (some (.int (nI (mFree s)))), mPut h m s) := by
  refine E_M_free z m _ _ ?_
  unfold D_M_free_0
  rw [ic_1n]
  exact t_free2 ok 6 1 rfl
theorem mFreeN_lt (s : mS) : ∀ (k d : Nat), d + k = 7 → mFreeN s k d < 7
  | 0, d, e => by unfold mFreeN; decide
  | k + 1, d, e => by
    unfold mFreeN
    split
    · omega
    · exact mFreeN_lt s k (d + 1) (by omega)
theorem mFree_lt (s : mS) : mFree s < 7 := mFreeN_lt s 6 1 rfl
end MU
