/-! The reference: has, leads, is; who waits; what is left; where a capability stands; what came of it. -/
section MC
variable {z : xzs} {h : xH} {m : Nat} {s : mS}
theorem xb_same {p : Prop} [Decidable p] (hp : p) : xb p = 1 := by unfold xb; rw [if_pos hp]
theorem xb_not {p : Prop} [Decidable p] (hp : ¬ p) : xb p = 0 := by unfold xb; rw [if_neg hp]
theorem xb_01 (p : Prop) [Decidable p] : xb p = 0 ∨ xb p = 1 := by unfold xb; split; exact Or.inr rfl; exact Or.inl rfl
-- has
theorem t_has25 (ok : mOk h m) : B_M_has_25 z m (mPut h m s) = some (.inl (some (.int (xb (s 0 0 = 0)))), mPut h m s) := by
  refine E_M_has_25 z m _ _ ?_
  simp only [D_M_has_25, mr_code ok, Option.bind_some]
  by_cases h0 : s 0 0 = 0
  · rw [if_neg (fun q => q h0), xb_same h0]
    refine E_M_has_37 z _ _ _ ?_
    unfold D_M_has_37
    rw [ic_1, if_pos (Or.inr rfl)]
  · rw [if_pos h0, xb_not h0]
    refine E_M_has_37 z _ _ _ ?_
    unfold D_M_has_37
    rw [ic_0, if_pos (Or.inl rfl)]
def mHas (s : mS) (t a : Nat) : mS := if mCapa s t a = 0 then sS (sS s 39 0 (mCapa s t a)) 0 0 (nI 2) else sS s 39 0 (mCapa s t a)
theorem t_M_has (ok : mOk h m) (W : mWF s) {t a : Nat} (hat : s 38 0 = nI t) (ht : t < 4) (ha : a < 72) (h0 : s 0 0 = 0) : f_M_has z [.ref m, .int (nI a)] (mPut h m s) = some (.inl (some (.int (xb (mCapa s t a ≠ 0)))), mPut h m (mHas s t a)) := by
  refine E_M_has z m _ _ _ ?_
  simp only [D_M_has_0, mr_at ok, hat, xisO_m ok, t_M_capability ok W ht ha, xclI_some, mw_cap ok, mr_cap ok, mw_code ok, Option.bind_some, sS_same, ic_2]
  unfold mHas
  by_cases hc : mCapa s t a = 0
  · rw [if_neg (fun q => q hc), if_pos hc, t_has25 ok, sS_same, xb_not (by decide), xb_not (fun q => q hc)]
  · rw [if_pos hc, if_neg hc, t_has25 ok, sS_app, if_neg (by decide), xb_same h0, xb_same hc]
-- leads
theorem t_leads25 (ok : mOk h m) : B_M_leads_25 z m (mPut h m s) = some (.inl (some (.int (xb (s 0 0 = 0)))), mPut h m s) := by
  refine E_M_leads_25 z m _ _ ?_
  simp only [D_M_leads_25, mr_code ok, Option.bind_some]
  by_cases h0 : s 0 0 = 0
  · rw [if_neg (fun q => q h0), xb_same h0]
    refine E_M_leads_37 z _ _ _ ?_
    unfold D_M_leads_37
    rw [ic_1, if_pos (Or.inr rfl)]
  · rw [if_pos h0, xb_not h0]
    refine E_M_leads_37 z _ _ _ ?_
    unfold D_M_leads_37
    rw [ic_0, if_pos (Or.inl rfl)]
def mLeads (s : mS) (t a : Nat) : mS := match mPlace s t a with
  | none => sS (sS s 40 0 (-1)) 0 0 (nI 2)
  | some p => sS s 40 0 (nI p)
theorem t_M_leads (ok : mOk h m) (W : mWF s) {t a : Nat} (hat : s 38 0 = nI t) (ht : t < 4) (ha : a < 72) (h0 : s 0 0 = 0) : f_M_leads z [.ref m, .int (nI a)] (mPut h m s) = some (.inl (some (.int (xb ((mPlace s t a).isSome = true)))), mPut h m (mLeads s t a)) := by
  refine E_M_leads z m _ _ _ ?_
  simp only [D_M_leads_0, mr_at ok, hat, xisO_m ok, t_M_place ok W ht ha, xclI_some, mw_goal ok, mr_goal ok, mw_code ok, Option.bind_some, sS_same, ic_2]
  unfold mLeads
  cases hp : mPlace s t a with
  | none =>
    rw [if_neg (show ¬ 0 ≤ xpl none by decide), t_leads25 ok, sS_same, xb_not (by decide), xb_not (by decide)]
    rfl
  | some p =>
    have hl := mPlace_lt W ht ha hp
    rw [if_pos (show 0 ≤ xpl (some p) from nI_pos' (by omega)), t_leads25 ok, sS_app, if_neg (by decide), xb_same h0, xb_same (show (some p).isSome = true from rfl)]
    rfl
-- is
theorem t_is46 (ok : mOk h m) : B_M_is_46 z m (mPut h m s) = some (.inl (some (.int (xb (s 0 0 = 0)))), mPut h m s) := by
  refine E_M_is_46 z m _ _ ?_
  simp only [D_M_is_46, mr_code ok, Option.bind_some]
  by_cases h0 : s 0 0 = 0
  · rw [if_neg (fun q => q h0), xb_same h0]
    refine E_M_is_58 z _ _ _ ?_
    unfold D_M_is_58
    rw [ic_1, if_pos (Or.inr rfl)]
  · rw [if_pos h0, xb_not h0]
    refine E_M_is_58 z _ _ _ ?_
    unfold D_M_is_58
    rw [ic_0, if_pos (Or.inl rfl)]
def mIs (s : mS) (c : Nat) (k n : Int32) : mS := if s 1 (vN (s 8 c)) = k then (if s 9 c &&& n = n then s else sS s 0 0 (nI 3)) else sS s 0 0 1
theorem t_M_is (ok : mOk h m) (W : mWF s) {c : Nat} (hcap : s 39 0 = nI c) (hc : c < 1200) (h0 : s 0 0 = 0) (k n : Int32) : f_M_is z [.ref m, .int k, .int n] (mPut h m s) = some (.inl (some (.int (xb (s 1 (vN (s 8 c)) = k ∧ s 9 c &&& n = n)))), mPut h m (mIs s c k n)) := by
  refine E_M_is z m _ _ _ _ ?_
  obtain ⟨o, o2, o1⟩ : ∃ o, o < 50 ∧ s 8 c = nI o := ⟨_, (W.2 _ hc).2, (W.2 _ hc).1⟩
  have vo : vN (nI o) = o := vN_nI (by omega)
  unfold mIs
  simp only [D_M_is_0, mr_kind ok, mr_of ok, mr_cap ok, hcap, ma_of ok hc, o1, vo, ma_kind ok o2, mr_rights ok, ma_rights ok hc, mw_code ok, Option.bind_some, ic_1, ic_3]
  by_cases h1 : s 1 o = k
  · rw [if_pos h1, if_pos h1]
    by_cases h2 : s 9 c &&& n = n
    · rw [if_pos h2, if_pos h2, t_is46 ok, xb_same h0, xb_same ⟨h1, h2⟩]
    · rw [if_neg h2, if_neg h2, t_is46 ok, sS_same, xb_not (by decide), xb_not (fun q => h2 q.2)]
  · rw [if_neg h1, if_neg h1, t_is46 ok, sS_same, xb_not (by decide), xb_not (fun q => h1 q.1)]
-- waiting
def mWtStep (s : mS) (o x y : Int32) (b t : Nat) : Nat := if ((s 15 t = x ∨ s 15 t = y) ∧ s 22 t = o) ∧ (b = 0 ∨ s 23 t < s 23 b) then t else b
def mWaiting (s : mS) (o x y : Int32) : Nat := mWtStep s o x y (mWtStep s o x y (mWtStep s o x y 0 1) 2) 3
theorem mWtStep_lt {o x y : Int32} {b t : Nat} (hb : b < 4) (ht : t < 4) : mWtStep s o x y b t < 4 := by
  unfold mWtStep
  split
  · exact ht
  · exact hb
theorem mWaiting_lt (s : mS) (o x y : Int32) : mWaiting s o x y < 4 := mWtStep_lt (mWtStep_lt (mWtStep_lt (by decide) (by decide)) (by decide)) (by decide)
theorem t_wt83 {o x y : Int32} {b t : Nat} {r : xR} {H : xH} (hn : B_M_waiting_6 z m o x y (nI b) (nI (t + 1)) H = some r) : B_M_waiting_83 z m o x y (nI b) (nI t) H = some r := by
  refine E_M_waiting_83 z m _ _ _ _ _ _ _ ?_
  unfold D_M_waiting_83
  rw [ic_1, nI_1]
  exact hn
theorem t_wt79 {o x y : Int32} {t : Nat} {r : xR} {H : xH} (hn : B_M_waiting_6 z m o x y (nI t) (nI (t + 1)) H = some r) : B_M_waiting_79 z m o x y (nI t) H = some r := by
  refine E_M_waiting_79 z m _ _ _ _ _ _ ?_
  unfold D_M_waiting_79
  exact t_wt83 hn
theorem t_wt50f {o x y : Int32} {b t : Nat} {r : xR} {H : xH} (hn : B_M_waiting_6 z m o x y (nI b) (nI (t + 1)) H = some r) : B_M_waiting_49 z m o x y (nI b) (nI t) H = some r := by
  refine E_M_waiting_49 z m _ _ _ _ _ _ _ ?_
  unfold D_M_waiting_49
  refine E_M_waiting_50 z m _ _ _ _ _ _ _ _ ?_
  unfold D_M_waiting_50
  rw [ic_0, if_pos rfl]
  exact t_wt83 hn
theorem t_wt34 (ok : mOk h m) {o x y : Int32} {b t : Nat} {r : xR} (hb : b < 4) (ht : t < 4) (hst : s 15 t = x ∨ s 15 t = y) (hn : B_M_waiting_6 z m o x y (nI (mWtStep s o x y b t)) (nI (t + 1)) (mPut h m s) = some r) : B_M_waiting_34 z m o x y (nI b) (nI t) (mPut h m s) = some r := by
  refine E_M_waiting_34 z m _ _ _ _ _ _ _ ?_
  simp only [D_M_waiting_34, mr_waitsAt ok, ma_waitsAt ok ht, Option.bind_some]
  unfold mWtStep at hn
  by_cases h1 : s 22 t = o
  · rw [if_neg (fun q => q h1)]
    refine E_M_waiting_50 z m _ _ _ _ _ _ _ _ ?_
    simp only [D_M_waiting_50, mr_since ok, ma_since ok ht, ma_since ok hb, Option.bind_some]
    rw [ic_1, if_neg (by decide)]
    by_cases h2 : b = 0
    · rw [if_pos ((nI_e0 (by omega)).mpr h2)]
      rw [if_pos ⟨⟨hst, h1⟩, Or.inl h2⟩] at hn
      exact t_wt79 hn
    · rw [if_neg (fun q => h2 ((nI_e0 (by omega)).mp q))]
      by_cases h3 : s 23 b ≤ s 23 t
      · rw [if_pos h3]
        rw [if_neg (by rintro ⟨-, q | q⟩; exact h2 q; exact k2_nle q h3)] at hn
        exact t_wt83 hn
      · rw [if_neg h3]
        rw [if_pos ⟨⟨hst, h1⟩, Or.inr (k2_lt h3)⟩] at hn
        exact t_wt79 hn
  · rw [if_pos h1]
    rw [if_neg (fun q => h1 q.1.2)] at hn
    exact t_wt50f hn
theorem t_wt_step (ok : mOk h m) {o x y : Int32} {b t : Nat} {r : xR} (hb : b < 4) (ht : t < 4) (hn : B_M_waiting_6 z m o x y (nI (mWtStep s o x y b t)) (nI (t + 1)) (mPut h m s) = some r) : B_M_waiting_6 z m o x y (nI b) (nI t) (mPut h m s) = some r := by
  refine E_M_waiting_6 z m _ _ _ _ _ _ _ ?_
  unfold D_M_waiting_6
  rw [ic_4, if_neg (nI_ge ht (by decide))]
  simp only [mr_state ok, ma_state ok ht, Option.bind_some]
  by_cases h1 : s 15 t = x
  · rw [if_pos h1]
    exact t_wt34 ok hb ht (Or.inl h1) hn
  · rw [if_neg h1]
    by_cases h2 : s 15 t = y
    · rw [if_neg (fun q => q h2)]
      exact t_wt34 ok hb ht (Or.inr h2) hn
    · rw [if_pos h2]
      unfold mWtStep at hn
      rw [if_neg (by rintro ⟨⟨q | q, -⟩, -⟩; exact h1 q; exact h2 q)] at hn
      exact t_wt50f hn
theorem t_M_waiting (ok : mOk h m) (o x y : Int32) : f_M_waiting z [.ref m, .int o, .int x, .int y] (mPut h m s) = some (.inl (some (.int (nI (mWaiting s o x y)))), mPut h m s) := by
  refine E_M_waiting z m _ _ _ _ _ ?_
  unfold D_M_waiting_0
  rw [ic_0n, ic_1n]
  refine t_wt_step ok (by decide) (by decide) (t_wt_step ok (mWtStep_lt (by decide) (by decide)) (by decide) (t_wt_step ok (mWtStep_lt (mWtStep_lt (by decide) (by decide)) (by decide)) (by decide) ?_))
  refine E_M_waiting_6 z m _ _ _ _ _ _ _ ?_
  unfold D_M_waiting_6
  rw [ic_4, if_pos (nI_le (by decide) (by decide))]
  rfl
-- left
def mLeft (s : mS) (o : Int32) : Nat → Nat
  | 0 => 0
  | c + 1 => mLeft s o c + (if ¬ s 12 (c + 1) = 0 ∧ s 8 (c + 1) = o then 1 else 0)
theorem mLeft_succ (s : mS) (o : Int32) (c : Nat) : mLeft s o (c + 1) = mLeft s o c + (if ¬ s 12 (c + 1) = 0 ∧ s 8 (c + 1) = o then 1 else 0) := rfl
theorem mLeft_le (s : mS) (o : Int32) : ∀ c, mLeft s o c ≤ c
  | 0 => Nat.le_refl _
  | c + 1 => by
    have := mLeft_le s o c
    unfold mLeft
    split <;> omega
theorem t_left34 {o x : Int32} {c : Nat} {r : xR} {H : xH} (hn : B_M_left_4 z m o x (nI (c + 1)) H = some r) : B_M_left_34 z m o x (nI c) H = some r := by
  refine E_M_left_34 z m _ _ _ _ _ ?_
  unfold D_M_left_34
  rw [ic_1, nI_1]
  exact hn
theorem t_left4 (ok : mOk h m) {n : Nat} (hm : s 13 0 = nI n) (hn : n < 1200) (o : Int32) : ∀ (k c : Nat), c + k = n → B_M_left_4 z m o (nI (mLeft s o c)) (nI (c + 1)) (mPut h m s) = some (.inl (some (.int (nI (mLeft s o n)))), mPut h m s)
  | 0, c, hc => by
    refine E_M_left_4 z m _ _ _ _ _ ?_
    simp only [D_M_left_4, mr_made ok, hm, Option.bind_some]
    rw [if_pos (nI_lt (by omega) (by omega)), show c = n by omega]
  | k + 1, c, hc => by
    refine E_M_left_4 z m _ _ _ _ _ ?_
    have hl : c + 1 < 1200 := by omega
    simp only [D_M_left_4, mr_made ok, hm, Option.bind_some, mr_lives ok, ma_lives ok hl, mr_of ok, ma_of ok hl]
    rw [if_neg (nI_nlt (by omega) (by omega))]
    have ih := t_left4 ok hm hn o k (c + 1) (by omega)
    rw [mLeft_succ] at ih
    by_cases h1 : s 12 (c + 1) = 0
    · rw [if_pos h1]
      rw [if_neg (fun q => q.1 h1)] at ih
      exact t_left34 ih
    · rw [if_neg h1]
      by_cases h2 : s 8 (c + 1) = o
      · rw [if_neg (fun q => q h2), ic_1, nI_1]
        rw [if_pos ⟨h1, h2⟩] at ih
        exact t_left34 ih
      · rw [if_pos h2]
        rw [if_neg (fun q => h2 q.2)] at ih
        exact t_left34 ih
theorem t_M_left (ok : mOk h m) {n : Nat} (hm : s 13 0 = nI n) (hn : n < 1200) (o : Int32) : f_M_left z [.ref m, .int o] (mPut h m s) = some (.inl (some (.int (nI (mLeft s o n)))), mPut h m s) := by
  refine E_M_left z m _ _ _ ?_
  unfold D_M_left_0
  rw [ic_0n, ic_1n]
  exact t_left4 ok hm hn o n 0 (by omega)
-- slotOf
def mFind (s : mS) (c : Int32) : Nat → Nat → Option Nat
  | 0, _ => none
  | n + 1, i => if s 14 i = c then some i else mFind s c n (i + 1)
def mSlotOf (s : mS) (c : Int32) : Option Nat := mFind s c 400 0
theorem t_slotOf2 (ok : mOk h m) (c : Int32) : ∀ (n i : Nat), i + n = 400 → B_M_slotOf_2 z m c (nI i) (mPut h m s) = some (.inl (some (.int (xpl (mFind s c n i)))), mPut h m s)
  | 0, i, hi => by
    refine E_M_slotOf_2 z m _ _ _ _ ?_
    unfold D_M_slotOf_2
    rw [sc_400, if_pos (nI_le (by omega) (by omega)), ic_m1]
    rfl
  | n + 1, i, hi => by
    refine E_M_slotOf_2 z m _ _ _ _ ?_
    have hl : i < 400 := by omega
    simp only [D_M_slotOf_2, mr_slot ok, ma_slot ok hl, Option.bind_some, sc_400]
    rw [if_neg (nI_ge hl (by decide))]
    unfold mFind
    by_cases h1 : s 14 i = c
    · rw [if_neg (fun q => q h1), if_pos h1]
      rfl
    · rw [if_pos h1, if_neg h1, ic_1, nI_1]
      exact t_slotOf2 ok c n (i + 1) (by omega)
theorem t_M_slotOf (ok : mOk h m) (c : Int32) : f_M_slotOf z [.ref m, .int c] (mPut h m s) = some (.inl (some (.int (xpl (mSlotOf s c)))), mPut h m s) := by
  refine E_M_slotOf z m _ _ _ ?_
  unfold D_M_slotOf_0
  rw [ic_0n]
  exact t_slotOf2 ok c 400 0 rfl
end MC
