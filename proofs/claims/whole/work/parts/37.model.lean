/-! The reference: drop. -/
section MG
variable {z : xzs} {h : xH} {m : Nat} {s : mS}
theorem mAb1_ne (s : mS) (t : Nat) {f : Nat} (hf : f ≠ 15 ∧ f ≠ 16 ∧ f ≠ 21 ∧ f ≠ 31) (j : Nat) : mAb1 s t f j = s f j := by
  unfold mAb1 mReady
  simp only [sS_app]
  rw [if_neg (fun q => hf.1 q.1), if_neg (fun q => hf.2.2.1 q.1), if_neg (fun q => hf.2.2.2 q.1), if_neg (fun q => hf.2.1 q.1)]
theorem mAbort_ne (o : Int32) {f : Nat} (hf : f ≠ 15 ∧ f ≠ 16 ∧ f ≠ 21 ∧ f ≠ 31) (j : Nat) : ∀ (n : Nat) (s : mS), mAbort o n s f j = s f j
  | 0, s => rfl
  | n + 1, s => by
    unfold mAbort
    split
    · rfl
    · rw [mAbort_ne o hf j n, mAb1_ne s _ hf]
theorem mLeft_congr {s s' : mS} (o : Int32) (h12 : ∀ c, s' 12 c = s 12 c) (h8 : ∀ c, s' 8 c = s 8 c) : ∀ n, mLeft s' o n = mLeft s o n
  | 0 => rfl
  | n + 1 => by rw [mLeft_succ, mLeft_succ, mLeft_congr o h12 h8 n, h12, h8]
/-- one capability is gone: its SLOT is empty, its children hang higher; the object, if it was the last one's -/
def mDrop1 (n c : Nat) (s : mS) : Option mS := match mSlotOf (sS s 12 c 0) (nI c) with
  | none => none
  | some q => if s 8 c = nI (vN (s 8 c)) ∧ vN (s 8 c) < 50 ∧ q < 400 then
      (if vN (s 8 c) < 5 ∨ 0 < mLeft (mRep (sS (sS s 12 c 0) 14 q 0) c n) (nI (vN (s 8 c))) n then some (mRep (sS (sS s 12 c 0) 14 q 0) c n)
      else if s 1 (vN (s 8 c)) = nI 3 then some (mPushL (vN (s 8 c)) 8 (mAbort (nI (vN (s 8 c))) 4 (sS (mRep (sS (sS s 12 c 0) 14 q 0) c n) 6 (vN (s 8 c)) 0)))
      else some (mAbort (nI (vN (s 8 c))) 4 (sS (mRep (sS (sS s 12 c 0) 14 q 0) c n) 6 (vN (s 8 c)) 0))) else none
/-- the pile, till it is empty; how many are gone -/
def mDropL (n : Nat) : Nat → Nat → mS → Option (Nat × mS)
  | 0, _, _ => none
  | F + 1, k, s => if s 33 0 = nI (vN (s 33 0)) ∧ vN (s 33 0) + 8 < 1200 ∧ s 13 0 = nI n ∧ n < 1200 then
      (if vN (s 33 0) = 0 then some (k, s)
      else if s 32 (vN (s 33 0) - 1) = nI (vN (s 32 (vN (s 33 0) - 1))) ∧ vN (s 32 (vN (s 33 0) - 1)) < 1200 then
        (if s 12 (vN (s 32 (vN (s 33 0) - 1))) = 0 then mDropL n F k (sS s 33 0 (nI (vN (s 33 0) - 1)))
        else (mDrop1 n (vN (s 32 (vN (s 33 0) - 1))) (sS s 33 0 (nI (vN (s 33 0) - 1)))).bind (mDropL n F (k + 1)))
      else none) else none
theorem t_drop77e (ok : mOk h m) {n c p : Nat} {x : Int32} {r : xR} {s' : mS} {S : mS} (hS : S = mRep s c n) (hm : S 13 0 = nI n) (hn : n < 1200) (hc : c < 1200) (hp : S 33 0 = nI p) (hb : p + 8 < 1200) (ho : S 8 c = nI (vN (S 8 c)) ∧ vN (S 8 c) < 50)
    (hs' : (if vN (S 8 c) < 5 ∨ 0 < mLeft S (nI (vN (S 8 c))) n then S else if S 1 (vN (S 8 c)) = nI 3 then mPushL (vN (S 8 c)) 8 (mAbort (nI (vN (S 8 c))) 4 (sS S 6 (vN (S 8 c)) 0)) else mAbort (nI (vN (S 8 c))) 4 (sS S 6 (vN (S 8 c)) 0)) = s')
    (hend : B_M_drop_14 z m x (mPut h m s') = some r) : B_M_drop_77 z m x (nI c) (nI (n + 1)) (mPut h m S) = some r := by
  refine E_M_drop_77 z m _ _ _ _ _ ?_
  obtain ⟨o1, o2⟩ := ho
  generalize hoe : vN (S 8 c) = o at o1 o2 hs'
  simp only [D_M_drop_77, mr_made ok, hm, mr_of ok, ma_of ok hc, o1, xisO_m ok, t_M_left ok hm hn, xclI_some, mr_there ok, mw_there ok o2, t_M_abort ok, xclV_some, Option.bind_some, ic_5, ic_0, nar_b0, bc_7n]
  rw [if_pos (nI_lt (by omega) (by omega))]
  have hll := mLeft_le S (nI o) n
  by_cases h5 : o < 5
  · rw [if_pos (nI_lt h5 (by decide))]
    rw [if_pos (Or.inl h5)] at hs'
    rw [hs']
    exact hend
  · rw [if_neg (nI_nlt (by omega) (by omega))]
    by_cases hl : 0 < mLeft S (nI o) n
    · rw [if_neg (nI_nle hl (by omega))]
      rw [if_pos (Or.inr hl)] at hs'
      rw [hs']
      exact hend
    · have e0 : mLeft S (nI o) n = 0 := by omega
      rw [if_pos (by rw [e0]; decide)]
      rw [if_neg (by rintro (q | q); exact h5 q; exact hl q)] at hs'
      have e1 : mAbort (nI o) 4 (sS S 6 o 0) 1 o = S 1 o := by
        rw [mAbort_ne _ (by decide), sS_app, if_neg (fun q => absurd q.1 (by decide))]
      have e33 : mAbort (nI o) 4 (sS S 6 o 0) 33 0 = nI p := by
        rw [mAbort_ne _ (by decide), sS_app, if_neg (fun q => absurd q.1 (by decide))]
        exact hp
      by_cases hk : S 1 o = nI 3
      · rw [if_pos hk] at hs'
        refine t_drop170 ok o2 7 p _ (by decide) e33 hb (e1.trans hk) ?_
        rw [hs']
        exact hend
      · rw [if_neg hk] at hs'
        refine t_drop170n ok o2 (fun q => hk (e1.symm.trans q)) ?_
        rw [hs']
        exact hend
theorem t_dropL (ok : mOk h m) {n : Nat} : ∀ (F k : Nat) (s : mS) (k' : Nat) (s' : mS), mDropL n F k s = some (k', s') → B_M_drop_14 z m (nI k) (mPut h m s) = some (.inl (some (.int (nI k'))), mPut h m s')
  | 0, k, s, k', s', hl => by cases hl
  | F + 1, k, s, k', s', hl => by
    refine E_M_drop_14 z m _ _ _ ?_
    unfold mDropL at hl
    split at hl
    · rename_i hA
      obtain ⟨a1, a2, a3, a4⟩ := hA
      generalize hpe : vN (s 33 0) = p at a1 a2 hl
      split at hl
      · rename_i hp0
        cases hl
        simp only [D_M_drop_14, mr_piled ok, a1, Option.bind_some]
        rw [hp0, if_pos (by decide)]
      · rename_i hp0
        split at hl
        · rename_i hB
          obtain ⟨b1, b2⟩ := hB
          generalize hce : vN (s 32 (p - 1)) = c at b1 b2 hl
          have hp1 : p - 1 < 1200 := by omega
          have ep : nI p - nI 1 = nI (p - 1) := pk_sub (by omega)
          simp only [D_M_drop_14, mr_piled ok, mw_piled ok, a1, ic_1n, ep, mr_pile ok, sS_same, ma_pile ok hp1, mr_lives ok, Option.bind_some]
          have e32 : sS s 33 0 (nI (p - 1)) 32 (p - 1) = nI c := by rw [sS_app, if_neg (fun q => absurd q.1 (by decide))]; exact b1
          have e12 : sS s 33 0 (nI (p - 1)) 12 c = s 12 c := by rw [sS_app, if_neg (fun q => absurd q.1 (by decide))]
          rw [if_neg (nI_nle (by omega) (by omega)), e32]
          simp only [ma_lives ok b2, mw_lives ok b2, e12, mr_slot ok, xisO_m ok, t_M_slotOf ok, xclI_some, Option.bind_some, ic_0, nar_b0]
          split at hl
          · rename_i hd
            rw [if_neg (fun q => q hd)]
            exact t_dropL ok F k _ k' s' hl
          · rename_i hd
            rw [if_pos hd]
            obtain ⟨s1, d1, d2⟩ := Option.bind_eq_some_iff.mp hl
            have ih := t_dropL ok F (k + 1) s1 k' s' d2
            unfold mDrop1 at d1
            split at d1
            · cases d1
            · rename_i q hq
              split at d1
              · rename_i hC
                obtain ⟨c1, c2, c3⟩ := hC
                rw [hq]
                show ((wrI (mPut h m _) (m + 12) (nI q) 0).bind fun h22 => B_M_drop_77 z m (nI k + nI 1) (nI c) (nI 1) h22) = _
                rw [mw_slot ok c3]
                show B_M_drop_77 z m (nI k + nI 1) (nI c) (nI 1) _ = _
                rw [nI_add]
                have hdead : sS (sS (sS s 33 0 (nI (p - 1))) 12 c 0) 14 q 0 12 c = 0 := by simp only [sS_app, Nat.reduceEqDiff, false_and, true_and, ↓reduceIte]
                have h13 : sS (sS (sS s 33 0 (nI (p - 1))) 12 c 0) 14 q 0 13 0 = nI n := by simp only [sS_app, Nat.reduceEqDiff, false_and, ↓reduceIte]; exact a3
                have base : mRep (sS (sS (sS s 33 0 (nI (p - 1))) 12 c 0) 14 q 0) c 0 = sS (sS (sS s 33 0 (nI (p - 1))) 12 c 0) 14 q 0 := by
                  funext f j
                  unfold mRep
                  rw [if_neg (fun w => by omega)]
                rw [← base]
                refine t_drop77 ok h13 a4 b2 hdead ?_ n 0 (by omega)
                have m8 : mRep (sS (sS (sS s 33 0 (nI (p - 1))) 12 c 0) 14 q 0) c n 8 c = s 8 c := by rw [mRep_ne _ _ _ (by decide)]; simp only [sS_app, Nat.reduceEqDiff, false_and, ↓reduceIte]
                have m1 : ∀ j, mRep (sS (sS (sS s 33 0 (nI (p - 1))) 12 c 0) 14 q 0) c n 1 j = s 1 j := fun j => by rw [mRep_ne _ _ _ (by decide)]; simp only [sS_app, Nat.reduceEqDiff, false_and, ↓reduceIte]
                have m33 : mRep (sS (sS (sS s 33 0 (nI (p - 1))) 12 c 0) 14 q 0) c n 33 0 = nI (p - 1) := by rw [mRep_ne _ _ _ (by decide)]; simp only [sS_app, Nat.reduceEqDiff, false_and, and_self, ↓reduceIte]
                have g8 : sS s 33 0 (nI (p - 1)) 8 c = s 8 c := by simp only [sS_app, Nat.reduceEqDiff, false_and, ↓reduceIte]
                have g1 : ∀ j, sS s 33 0 (nI (p - 1)) 1 j = s 1 j := fun j => by simp only [sS_app, Nat.reduceEqDiff, false_and, ↓reduceIte]
                rw [g8] at c1 c2 d1
                rw [g1] at d1
                refine t_drop77e ok (s := sS (sS (sS s 33 0 (nI (p - 1))) 12 c 0) 14 q 0) (p := p - 1) (s' := s1) rfl (by rw [mRep_ne _ _ _ (by decide)]; exact h13) a4 b2 m33 (by omega) (by rw [m8]; exact ⟨c1, c2⟩) ?_ ih
                rw [m8, m1]
                split at d1
                · rename_i w
                  rw [if_pos w]
                  exact Option.some.inj d1
                · rename_i w
                  rw [if_neg w]
                  split at d1
                  · rename_i w2
                    rw [if_pos w2]
                    exact Option.some.inj d1
                  · rename_i w2
                    rw [if_neg w2]
                    exact Option.some.inj d1
              · cases d1
        · cases hl
    · cases hl
/-- drop(first) -/
def mDropS (s : mS) (c : Nat) : mS := sS (sS s 33 0 1) 32 0 (nI c)
theorem t_M_drop (ok : mOk h m) {n F c k' : Nat} {s' : mS} (hl : mDropL n F 0 (mDropS s c) = some (k', s')) : f_M_drop z [.ref m, .int (nI c)] (mPut h m s) = some (.inl (some (.int (nI k'))), mPut h m s') := by
  refine E_M_drop z m _ _ _ ?_
  have w0 : wrI (mPut h m (sS s 33 0 1)) (m + 29) 0 (nI c) = some (mPut h m (mDropS s c)) := mw_pile ok (j := 0) (by decide) (nI c)
  simp only [D_M_drop_0, mw_piled ok, mr_pile ok, Option.bind_some, ic_1, ic_0, w0]
  exact t_dropL ok F 0 _ k' s' hl
end MG
