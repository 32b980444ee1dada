/-! The reference: its actions. A result: the code (0 none), the answer, the state. -/
section MI
variable {z : xzs} {h : xH} {m : Nat} {s : mS}
abbrev mR : Type := Int32 × Int32 × mS
/-- the method ends as the result says -/
def mDone (z : xzs) (h : xH) (m : Nat) (o : Option xR) (q : mR) : Prop := ∃ σ, o = some (.inl (some (.int q.2.1)), mPut h m σ) ∧ mEq q.2.2 σ ∧ σ 0 0 = q.1
def rAd (x : Int32) : Prop := ¬ (x < 0 ∨ nI 71 < x)
def rIn (x a b : Int32) : Prop := ¬ (x < a ∨ b < x)
theorem xif_in (x a b : Int32) : (if x < a ∨ b < x then (0 : Int32) else 1) = 0 ↔ ¬ rIn x a b := by
  unfold rIn
  split
  · rename_i q; exact ⟨fun _ w => w q, fun _ => rfl⟩
  · rename_i q; exact ⟨fun w => absurd w (by decide), fun w => absurd q w⟩
theorem mCapa_isN (W : mWF s) {t a : Nat} (ht : t < 4) (ha : a < 72) : isN (mCapa s t a) 1200 := by
  unfold mCapa
  cases hp : mPlace s t a with
  | none => exact (show isN 0 1200 from ⟨by decide, by decide⟩)
  | some p => exact W.1 p (mPlace_lt W ht ha hp)
/-- what copy does, its numbers in range, for the CURRENT thread t -/
def mCopyG (s : mS) (n t a b : Nat) (p : Int32) : mR := if mCapa s t a = 0 then (nI 2, 0, s) else match mPlace s t b with
  | none => (nI 2, 0, s)
  | some q => if ¬ s 14 q = 0 then (nI 4, 0, s) else (0, s 9 (vN (mCapa s t a)) &&& p, mPutC s n q (s 8 (vN (mCapa s t a))) (s 9 (vN (mCapa s t a)) &&& p) (s 10 (vN (mCapa s t a))) (mCapa s t a))
theorem t_copy76 (H : xH) : B_M_copy_76 z H = some (.inl (some (.int 0)), H) := by
  refine E_M_copy_76 z H _ ?_
  unfold D_M_copy_76
  rw [ic_0]
theorem t_copyG (ok : mOk h m) (W : mWF s) {n t a b : Nat} (hm : s 13 0 = nI n) (hn : n + 1 < 1200) (ht : mNow s = t) (ht0 : t ≠ 0) (ha : a < 72) (hb : b < 72) (p : Int32) : mDone z h m (B_M_copy_30 z m (nI a) (nI b) p 1 (some m) (mPut h m s)) (mCopyG s n t a b p) := by
  have ht4 : t < 4 := by rw [← ht]; exact mNow_lt s
  obtain ⟨σ1, e1, -, -, K1⟩ := w_begins (z := z) (s := s) ok 1
  have K1 := K1 (by rw [ht]; exact ht0) (by decide)
  rw [xb_same ⟨by rw [ht]; exact ht0, by decide⟩] at e1
  rw [ht] at K1
  obtain ⟨σ2, e2, q2, c2, K2, -⟩ := w_has (z := z) ok W ht4 ha K1
  unfold mCopyG
  by_cases hc : mCapa s t a = 0
  · rw [if_pos hc]
    refine ⟨σ2, E_M_copy_30 z m _ _ _ _ _ _ _ ?_, q2, c2 hc⟩
    simp only [D_M_copy_30, xisO_m ok, e1, xclI_some, Option.bind_some, e2]
    rw [if_neg (by decide), xb_not (fun w => w hc), if_pos rfl, t_copy76]
  · rw [if_neg hc]
    rw [xb_same hc] at e2
    obtain ⟨K2, h39⟩ := K2 hc
    obtain ⟨σ3, e3, q3, c3, K3, h39'⟩ := w_leads (z := z) ok W ht4 hb K2
    cases hp : mPlace s t b with
    | none =>
      rw [hp] at e3
      refine ⟨σ3, E_M_copy_30 z m _ _ _ _ _ _ _ ?_, q3, c3 hp⟩
      simp only [D_M_copy_30, xisO_m ok, e1, xclI_some, Option.bind_some, e2, e3]
      rw [if_neg (by decide), if_neg (by decide), xb_not (by decide), if_pos rfl, t_copy76]
    | some q =>
      rw [hp, xb_same (show (some q).isSome = true from rfl)] at e3
      show mDone z h m _ (if ¬ s 14 q = 0 then _ else _)
      have hq := mPlace_lt W ht4 hb hp
      obtain ⟨⟨q3', h38, h00⟩, h40⟩ := K3 q hp
      obtain ⟨c, hcl, hce⟩ : ∃ c, c < 1200 ∧ mCapa s t a = nI c := ⟨_, (mCapa_isN W ht4 ha).2, (mCapa_isN W ht4 ha).1⟩
      have hcap : σ3 39 0 = nI c := by rw [h39', h39, hce]
      have vc : vN (nI c) = c := vN_nI (by omega)
      have s14 := q3 14 (by decide)
      have s13 := q3 13 (by decide)
      have s8 := q3 8 (by decide)
      have s9 := q3 9 (by decide)
      have s10 := q3 10 (by decide)
      by_cases hs : s 14 q = 0
      · have so := t_M_so (z := z) (s := σ3) ok 1 (Or.inr rfl)
        rw [if_neg (by decide)] at so
        have hm3 : σ3 13 0 = nI n := by rw [s13]; exact hm
        have pt := t_M_put (z := z) (s := σ3) ok (c := n) (sl := q) hm3 hn hq
        rw [if_neg (fun w => w hs)]
        refine ⟨mPutC σ3 n q (σ3 8 c) (σ3 9 c &&& p) (σ3 10 c) (nI c), E_M_copy_30 z m _ _ _ _ _ _ _ ?_, ?_, ?_⟩
        · simp only [D_M_copy_30, xisO_m ok, e1, xclI_some, Option.bind_some, e2, e3, mr_slot ok, mr_goal ok, h40, ma_slot ok hq, s14]
          rw [if_neg (by decide), if_neg (by decide), if_neg (by decide), if_neg (fun w => w hs)]
          refine E_M_copy_70 z m _ _ _ _ _ ?_
          simp only [D_M_copy_70, xisO_m ok, so, xclI_some, Option.bind_some, ic_1, mr_goal ok, h40, mr_of ok, mr_cap ok, hcap, ma_of ok hcl, mr_rights ok, ma_rights ok hcl, mr_badge ok, ma_badge ok hcl, pt]
          rw [if_pos (by decide), hce, vc, s9]
        · rw [hce, vc, ← s8, ← s9, ← s10]
          exact q3.putC _ _ _ _ _ _
        · show mPutC σ3 n q _ _ _ _ 0 0 = 0
          unfold mPutC
          simp only [sS_app, Nat.reduceEqDiff, false_and, ↓reduceIte]
          exact h00
      · have so := t_M_so (z := z) (s := σ3) ok 0 (Or.inl rfl)
        rw [if_pos rfl] at so
        rw [if_pos hs]
        refine ⟨sS σ3 0 0 (nI 4), E_M_copy_30 z m _ _ _ _ _ _ _ ?_, q3.sc (Or.inl rfl) 0 _, sS_same _ _ _ _⟩
        simp only [D_M_copy_30, xisO_m ok, e1, xclI_some, Option.bind_some, e2, e3, mr_slot ok, mr_goal ok, h40, ma_slot ok hq, s14]
        rw [if_neg (by decide), if_neg (by decide), if_neg (by decide), if_pos hs]
        refine E_M_copy_70 z m _ _ _ _ _ ?_
        simp only [D_M_copy_70, xisO_m ok, so, xclI_some, Option.bind_some, ic_0]
        rw [if_neg (by decide), t_copy76]
end MI
