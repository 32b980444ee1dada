/-! The reference: drop, its inner loops. -/
section MF
variable {z : xzs} {h : xH} {m : Nat} {s : mS}
theorem bc_7n : (Int8.ofInt 7).toInt32 = nI 7 := by decide
theorem t_drop120 {x : Int32} {c k : Nat} {r : xR} {H : xH} (hn : B_M_drop_77 z m x (nI c) (nI (k + 1)) H = some r) : B_M_drop_120 z m x (nI c) (nI k) H = some r := by
  refine E_M_drop_120 z m _ _ _ _ _ ?_
  unfold D_M_drop_120
  rw [ic_1, nI_1]
  exact hn
/-- the children of a dead capability -/
theorem t_drop77 (ok : mOk h m) {n c : Nat} (hm : s 13 0 = nI n) (hn : n < 1200) (hc : c < 1200) (hd : s 12 c = 0) {x : Int32} {r : xR} (hend : B_M_drop_77 z m x (nI c) (nI (n + 1)) (mPut h m (mRep s c n)) = some r) :
    ∀ (j k : Nat), k + j = n → B_M_drop_77 z m x (nI c) (nI (k + 1)) (mPut h m (mRep s c k)) = some r
  | 0, k, hk => by
    have : k = n := by omega
    subst this
    exact hend
  | j + 1, k, hk => by
    refine E_M_drop_77 z m _ _ _ _ _ ?_
    have hl : k + 1 < 1200 := by omega
    have ih := t_drop77 ok hm hn hc hd hend j (k + 1) (by omega)
    rw [mRep_step s k hd] at ih
    have e13 : mRep s c k 13 0 = nI n := by rw [mRep_ne s c k (by decide)]; exact hm
    have e12 : mRep s c k 12 (k + 1) = s 12 (k + 1) := mRep_ne s c k (by decide) _
    have e11 : mRep s c k 11 (k + 1) = s 11 (k + 1) := by rw [mRep_11, if_neg (fun w => by omega)]
    have e11c : mRep s c k 11 c = s 11 c := mRep_c s k hd
    simp only [D_M_drop_77, mr_made ok, e13, mr_lives ok, ma_lives ok hl, e12, mr_parent ok, ma_parent ok hl, e11, ma_parent ok hc, e11c, mw_parent ok hl, Option.bind_some]
    rw [if_neg (nI_nlt (by omega) (by omega))]
    by_cases h1 : s 12 (k + 1) = 0
    · rw [if_pos h1]
      rw [if_neg (fun q => q.1 h1)] at ih
      exact t_drop120 ih
    · rw [if_neg h1]
      by_cases h2 : s 11 (k + 1) = nI c
      · rw [if_neg (fun q => q h2)]
        rw [if_pos ⟨h1, h2⟩] at ih
        exact t_drop120 ih
      · rw [if_pos h2]
        rw [if_neg (fun q => h2 q.2)] at ih
        exact t_drop120 ih
/-- the capabilities of a TABLE that is gone go onto the pile, the last SLOT's first -/
def mPushL (o : Nat) : Nat → mS → mS
  | 0, s => s
  | j + 1, s => mPushL o j (if s 14 (8 * o + j) = 0 then s else sS (sS s 32 (vN (s 33 0)) (s 14 (8 * o + j))) 33 0 (s 33 0 + 1))
theorem t_drop170 (ok : mOk h m) {o : Nat} (ho : o < 50) {x : Int32} {r : xR} : ∀ (j p : Nat) (s : mS), j < 8 → s 33 0 = nI p → p + 8 < 1200 → s 1 o = nI 3 → B_M_drop_14 z m x (mPut h m (mPushL o (j + 1) s)) = some r → B_M_drop_170 z m x (nI o) (nI j) (mPut h m s) = some r := by
  have main : ∀ (j p : Nat) (s : mS), j < 8 → s 33 0 = nI p → p + (j + 1) < 1200 → s 1 o = nI 3 → B_M_drop_14 z m x (mPut h m (mPushL o (j + 1) s)) = some r → B_M_drop_170 z m x (nI o) (nI j) (mPut h m s) = some r := by
    intro j
    induction j with
    | zero =>
      intro p s hj hp hb hk hend
      have hl : 8 * o + 0 < 400 := by omega
      have hpl : p < 1200 := by omega
      have vp : vN (nI p) = p := vN_nI (by omega)
      refine E_M_drop_170 z m _ _ _ _ _ ?_
      simp only [D_M_drop_170, mr_kind ok, ma_kind ok ho, hk, mr_slot ok, bc_8, pk_mul, nI_add, ma_slot ok hl, mr_pile ok, mr_piled ok, hp, mw_pile ok hpl, mw_piled ok, Option.bind_some, ic_3, ic_1, sS_app, Nat.reduceEqDiff, false_and, ↓reduceIte]
      rw [if_neg (nI_pos (by omega)), if_neg (fun q => q trivial)]
      unfold mPushL at hend
      rw [hp, vp] at hend
      have hdone : ∀ H : xH, B_M_drop_14 z m x H = some r → B_M_drop_237 z m x (nI o) (nI 0) H = some r := by
        intro H hH
        refine E_M_drop_237 z m _ _ _ _ _ ?_
        unfold D_M_drop_237
        rw [ic_m1]
        refine E_M_drop_170 z m _ _ _ _ _ ?_
        unfold D_M_drop_170
        rw [if_pos (by decide)]
        refine E_M_drop_243 z m _ _ _ ?_
        unfold D_M_drop_243
        exact hH
      by_cases h1 : s 14 (8 * o + 0) = 0
      · rw [if_neg (fun q => q h1)]
        rw [if_pos h1] at hend
        exact hdone _ hend
      · rw [if_pos h1]
        rw [if_neg h1] at hend
        exact hdone _ hend
    | succ j ih =>
      intro p s hj hp hb hk hend
      have hl : 8 * o + (j + 1) < 400 := by omega
      have hpl : p < 1200 := by omega
      have vp : vN (nI p) = p := vN_nI (by omega)
      refine E_M_drop_170 z m _ _ _ _ _ ?_
      simp only [D_M_drop_170, mr_kind ok, ma_kind ok ho, hk, mr_slot ok, bc_8, pk_mul, nI_add, ma_slot ok hl, mr_pile ok, mr_piled ok, hp, mw_pile ok hpl, mw_piled ok, Option.bind_some, ic_3, ic_1, sS_app, Nat.reduceEqDiff, false_and, ↓reduceIte]
      rw [if_neg (nI_pos (by omega)), if_neg (fun q => q trivial)]
      unfold mPushL at hend
      rw [hp, vp] at hend
      have hgo : ∀ H : xH, B_M_drop_170 z m x (nI o) (nI j) H = some r → B_M_drop_237 z m x (nI o) (nI (j + 1)) H = some r := by
        intro H hH
        refine E_M_drop_237 z m _ _ _ _ _ ?_
        unfold D_M_drop_237
        rw [ic_m1, pk_m1]
        exact hH
      by_cases h1 : s 14 (8 * o + (j + 1)) = 0
      · rw [if_neg (fun q => q h1)]
        rw [if_pos h1] at hend
        exact hgo _ (ih p s (by omega) hp (by omega) hk hend)
      · rw [if_pos h1]
        rw [if_neg h1] at hend
        refine hgo _ (ih (p + 1) _ (by omega) ?_ (by omega) ?_ hend)
        · rw [sS_same, nI_1]
        · simp only [sS_app, Nat.reduceEqDiff, false_and, ↓reduceIte]
          exact hk
  intro j p s hj hp hb hk hend
  exact main j p s hj hp (by omega) hk hend
theorem t_drop170n (ok : mOk h m) {o : Nat} (ho : o < 50) {x : Int32} {r : xR} (hk : ¬ s 1 o = nI 3) (hend : B_M_drop_14 z m x (mPut h m s) = some r) : B_M_drop_170 z m x (nI o) (nI 7) (mPut h m s) = some r := by
  refine E_M_drop_170 z m _ _ _ _ _ ?_
  simp only [D_M_drop_170, mr_kind ok, ma_kind ok ho, Option.bind_some, ic_3]
  rw [if_neg (by decide), if_pos hk]
  refine E_M_drop_243 z m _ _ _ ?_
  unfold D_M_drop_243
  exact hend
end MF
