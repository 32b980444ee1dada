/-! The reference: drop does not look at the scratch fields; delete. -/
section MZ
variable {z : xzs} {h : xH} {m : Nat} {s : mS}
/-- equal but scratch, and the same pile -/
def mED (s σ : mS) : Prop := mEq s σ ∧ σ 33 0 = s 33 0 ∧ ∀ i, i < vN (s 33 0) → σ 32 i = s 32 i
theorem sS_nf (s : mS) {f f' : Nat} (hf : f' ≠ f) (j j' : Nat) (v : Int32) : sS s f j v f' j' = s f' j' := by rw [sS_app, if_neg (fun w => hf w.1)]
theorem mED_sS {s σ : mS} (e : mED s σ) {f : Nat} (h2 : 32 ≠ f) (h3 : 33 ≠ f) (j : Nat) (v : Int32) : mED (sS s f j v) (sS σ f j v) := by
  refine ⟨e.1.sS f j v, ?_, ?_⟩
  · rw [sS_nf _ h3, sS_nf _ h3]; exact e.2.1
  · intro i hi
    rw [sS_nf _ h3] at hi
    rw [sS_nf _ h2, sS_nf _ h2]
    exact e.2.2 i hi
theorem mED_pop {s σ : mS} (e : mED s σ) {p : Nat} (hp : p ≤ vN (s 33 0)) (hl : p < 2 ^ 31) : mED (sS s 33 0 (nI p)) (sS σ 33 0 (nI p)) := by
  refine ⟨e.1.sS _ _ _, ?_, ?_⟩
  · rw [sS_same, sS_same]
  · intro i hi
    rw [sS_same, vN_nI hl] at hi
    rw [sS_nf _ (by decide), sS_nf _ (by decide)]
    exact e.2.2 i (by omega)
theorem mED_push {s σ : mS} (e : mED s σ) {p : Nat} (hp : s 33 0 = nI p) (hl : p + 1 < 2 ^ 31) (v : Int32) : mED (sS (sS s 32 p v) 33 0 (nI (p + 1))) (sS (sS σ 32 p v) 33 0 (nI (p + 1))) := by
  refine ⟨(e.1.sS _ _ _).sS _ _ _, ?_, ?_⟩
  · rw [sS_same, sS_same]
  · intro i hi
    rw [sS_same, vN_nI hl] at hi
    have a : ∀ x : mS, sS x 33 0 (nI (p + 1)) 32 i = x 32 i := fun x => sS_nf x (by decide) _ _ _
    rw [a, a]
    by_cases g : i = p
    · subst g
      rw [sS_same, sS_same]
    · rw [sS_app, if_neg (fun w => g w.2), sS_app, if_neg (fun w => g w.2)]
      exact e.2.2 i (by rw [hp, vN_nI (by omega)]; omega)
theorem mED_rep {s σ : mS} (e : mED s σ) (c n : Nat) : mED (mRep s c n) (mRep σ c n) := by
  refine ⟨fun f hf => ?_, ?_, ?_⟩
  · unfold mRep
    rw [e.1 12 (by decide), e.1 11 (by decide), e.1 f hf]
  · rw [mRep_ne _ _ _ (by decide), mRep_ne _ _ _ (by decide)]; exact e.2.1
  · intro i hi
    rw [mRep_ne _ _ _ (by decide)] at hi
    rw [mRep_ne _ _ _ (by decide), mRep_ne _ _ _ (by decide)]
    exact e.2.2 i hi
theorem mEq_firstW {s σ : mS} (e : mEq s σ) (o : Int32) : mFirstW σ o = mFirstW s o := by
  unfold mFirstW
  rw [e.wait, e.wait]
theorem mEq_abort (o : Int32) : ∀ (n : Nat) {s σ : mS}, mEq s σ → mEq (mAbort o n s) (mAbort o n σ)
  | 0, _, _, e => e
  | n + 1, s, σ, e => by
    unfold mAbort
    rw [mEq_firstW e]
    split
    · exact e
    · exact mEq_abort o n ((e.sS _ _ _).ready _)
theorem mED_abort {s σ : mS} (e : mED s σ) (o : Int32) (n : Nat) : mED (mAbort o n s) (mAbort o n σ) := by
  refine ⟨mEq_abort o n e.1, ?_, ?_⟩
  · rw [mAbort_ne _ (by decide), mAbort_ne _ (by decide)]; exact e.2.1
  · intro i hi
    rw [mAbort_ne _ (by decide)] at hi
    rw [mAbort_ne _ (by decide), mAbort_ne _ (by decide)]
    exact e.2.2 i hi
theorem mED_pushL (o : Nat) : ∀ (j p : Nat) {s σ : mS}, mED s σ → s 33 0 = nI p → p + j < 2 ^ 31 → mED (mPushL o j s) (mPushL o j σ)
  | 0, _, _, _, e, _, _ => e
  | j + 1, p, s, σ, e, hp, hl => by
    unfold mPushL
    have vp : vN (nI p) = p := vN_nI (by omega)
    rw [e.1 14 (by decide), e.2.1, hp, vp]
    have e1 : nI p + 1 = nI (p + 1) := nI_1 p
    rw [e1]
    by_cases g : s 14 (8 * o + j) = 0
    · rw [if_pos g, if_pos g]
      exact mED_pushL o j p e hp (by omega)
    · rw [if_neg g, if_neg g]
      exact mED_pushL o j (p + 1) (mED_push e hp (by omega) _) (sS_same _ _ _ _) (by omega)
theorem mED_left {s σ : mS} (e : mED s σ) (o : Int32) (n : Nat) : mLeft σ o n = mLeft s o n := mLeft_congr o (fun c => by rw [e.1 12 (by decide)]) (fun c => by rw [e.1 8 (by decide)]) n
theorem mED_drop1 {s σ : mS} (e : mED s σ) {n c p : Nat} (hp : s 33 0 = nI p) (hl : p + 8 < 2 ^ 31) {s' : mS} (hs : mDrop1 n c s = some s') : ∃ σ', mDrop1 n c σ = some σ' ∧ mED s' σ' := by
  unfold mDrop1 at hs ⊢
  have e0 := mED_sS e (f := 12) (by decide) (by decide) c 0
  rw [e0.1.slotOf, e.1 8 (by decide), e.1 1 (by decide)]
  cases hq : mSlotOf (sS s 12 c 0) (nI c) with
  | none => rw [hq] at hs; exact absurd hs (by simp)
  | some q =>
    rw [hq] at hs
    have eR := mED_rep (mED_sS e0 (f := 14) (by decide) (by decide) q 0) c n
    simp only at hs ⊢
    by_cases g1 : s 8 c = nI (vN (s 8 c)) ∧ vN (s 8 c) < 50 ∧ q < 400
    · rw [if_pos g1] at hs ⊢
      rw [mED_left eR]
      by_cases g2 : vN (s 8 c) < 5 ∨ 0 < mLeft (mRep (sS (sS s 12 c 0) 14 q 0) c n) (nI (vN (s 8 c))) n
      · rw [if_pos g2] at hs ⊢
        have hs := Option.some.inj hs
        subst hs
        exact ⟨_, rfl, eR⟩
      · rw [if_neg g2] at hs ⊢
        have eA := mED_abort (mED_sS eR (f := 6) (by decide) (by decide) (vN (s 8 c)) 0) (nI (vN (s 8 c))) 4
        by_cases g3 : s 1 (vN (s 8 c)) = nI 3
        · rw [if_pos g3] at hs ⊢
          have hs := Option.some.inj hs
          subst hs
          refine ⟨_, rfl, mED_pushL _ 8 p eA ?_ hl⟩
          rw [mAbort_ne _ (by decide), sS_nf _ (by decide), mRep_ne _ _ _ (by decide), sS_nf _ (by decide), sS_nf _ (by decide)]
          exact hp
        · rw [if_neg g3] at hs ⊢
          have hs := Option.some.inj hs
          subst hs
          exact ⟨_, rfl, eA⟩
    · rw [if_neg g1] at hs
      exact absurd hs (by simp)
theorem mED_dropL {n : Nat} : ∀ (F k : Nat) {s σ : mS} {k' : Nat} {s' : mS}, mED s σ → mDropL n F k s = some (k', s') → ∃ σ', mDropL n F k σ = some (k', σ') ∧ mED s' σ'
  | 0, k, s, σ, k', s', e, hs => by unfold mDropL at hs; exact absurd hs (by simp)
  | F + 1, k, s, σ, k', s', e, hs => by
    unfold mDropL at hs ⊢
    rw [e.2.1, e.1 13 (by decide), e.1 12 (by decide)]
    by_cases g0 : s 33 0 = nI (vN (s 33 0)) ∧ vN (s 33 0) + 8 < 1200 ∧ s 13 0 = nI n ∧ n < 1200
    · rw [if_pos g0] at hs ⊢
      by_cases g1 : vN (s 33 0) = 0
      · rw [if_pos g1] at hs ⊢
        have hs := Option.some.inj hs
        rw [Prod.mk.injEq] at hs
        obtain ⟨rfl, rfl⟩ := hs
        exact ⟨σ, rfl, e⟩
      · rw [if_neg g1] at hs ⊢
        rw [e.2.2 (vN (s 33 0) - 1) (by omega)]
        by_cases g2 : s 32 (vN (s 33 0) - 1) = nI (vN (s 32 (vN (s 33 0) - 1))) ∧ vN (s 32 (vN (s 33 0) - 1)) < 1200
        · rw [if_pos g2] at hs ⊢
          have eP := mED_pop e (p := vN (s 33 0) - 1) (by omega) (by omega)
          by_cases g3 : s 12 (vN (s 32 (vN (s 33 0) - 1))) = 0
          · rw [if_pos g3] at hs ⊢
            exact mED_dropL F k eP hs
          · rw [if_neg g3] at hs ⊢
            cases h1 : mDrop1 n (vN (s 32 (vN (s 33 0) - 1))) (sS s 33 0 (nI (vN (s 33 0) - 1))) with
            | none => rw [h1] at hs; exact absurd hs (by simp)
            | some s1 =>
              rw [h1, Option.bind_some] at hs
              obtain ⟨σ1, r1, e1⟩ := mED_drop1 eP (sS_same _ _ _ _) (by omega) h1
              rw [r1, Option.bind_some]
              exact mED_dropL F (k + 1) e1 hs
        · rw [if_neg g2] at hs
          exact absurd hs (by simp)
    · rw [if_neg g0] at hs
      exact absurd hs (by simp)
end MZ
