/-! Alike: copy, mint, move. -/
section LJ
theorem n10 : ¬ (1 : Int32) = 0 := by decide
theorem n20 : ¬ nI 2 = 0 := by decide
theorem n30 : ¬ nI 3 = 0 := by decide
theorem n40 : ¬ nI 4 = 0 := by decide
variable {z : xzs} {W : kW} {h : xH} {c s : mS} {n K m : Nat}
theorem isN_and {x y : Int32} (hx : isN x 8) : isN (x &&& y) 8 := by
  obtain ⟨h1, h2⟩ := hx
  have e7 : x &&& nI 7 = x := by
    rw [h1, pk_andN (k := 3) (by omega) (by decide), Nat.mod_eq_of_lt (by omega)]
  have e : x &&& y = nI ((y &&& x).toBitVec.toNat % 2 ^ 3) := by
    rw [← pk_and (y &&& x) (m := nI 7) 3 (by decide), Int32.and_assoc, e7, Int32.and_comm]
  rw [e]
  exact isN_nI (Nat.mod_lt _ (by decide)) (by decide)
/-- a capability that is named lives -/
theorem jS.live (J : jS K W c s n) {t a : Nat} (t1 : 1 ≤ t) (t2 : t < 4) (ha : a < 72) (e : ¬ mCapa c t a = 0) : 1 ≤ vN (mCapa c t a) ∧ vN (mCapa c t a) ≤ kC W ∧ mCapa c t a = nI (vN (mCapa c t a)) ∧ ¬ c 12 (vN (mCapa c t a)) = 0 ∧ ∃ q, q < 400 ∧ c 14 q = nI (vN (mCapa c t a)) ∧ kTab c t a = some (q / 8) ∧ q % 8 = a % 8 := by
  have F := J.1.1.wf
  obtain ⟨j1, j2⟩ := kCapN F t1 t2 ha e
  have b3 := J.1.1.1.2.2.1
  have hN := (mCapa_ok F t1 t2 ha).1
  refine ⟨j1, j2, hN, ?_⟩
  cases e1 : kTab c t a with
  | none => exact absurd (mCapa_none e1) e
  | some o =>
    obtain ⟨o1, o2⟩ := kTab_ok F t1 t2 ha e1
    have hT := F.1.2.1
    have hc : c 14 (8 * o + a % 8) = nI (vN (mCapa c t a)) := by rw [← mCapa_tab e1]; exact hN
    exact ⟨(J.1.1.lv (by omega) j1 (by omega) hc).2.1, 8 * o + a % 8, by omega, hc, by rw [show (8 * o + a % 8) / 8 = o by omega], by omega⟩
theorem mRef_q (h0 : mNow c = mNow s) : (mRef s).1 = (mRef c).1 ∧ (mRef s).2.1 = (mRef c).2.1 := by
  unfold mRef
  rw [h0]
  exact ⟨rfl, rfl⟩
theorem kSim_bad {fC fM : xF} {as : List Value} (J : jS K W c s n) (hM : ∀ hR, mOk hR m → mDone z hR m (fM (.ref m :: as) (mPut hR m s)) (mRef s)) (hC : ∀ P, kDone z W h c (fC (.ref (kg W 0 0) :: as) (kPut W h c)) (mRef c) P) : kSim z W h K c s n m fC fM as := by
  obtain ⟨q1, q2⟩ := mRef_q J.now
  exact ⟨mRef s, hM, kDone_q q1 q2 (hC _), fun _ => rfl, by unfold mRef; split; exact i54; exact i51⟩
theorem kSim_bad1 {fC fM : xF} {as : List Value} (hM : ∀ hR, mOk hR m → mDone z hR m (fM (.ref m :: as) (mPut hR m s)) (1, 0, s)) (hC : ∀ P, kDone z W h c (fC (.ref (kg W 0 0) :: as) (kPut W h c)) (1, 0, c) P) : kSim z W h K c s n m fC fM as := ⟨(1, 0, s), hM, kDone_q rfl rfl (hC _), fun _ => rfl, i51⟩
theorem mCopyG_q (E : jE W c s) (N t a b : Nat) (p : Int32) : (mCopyG s N t a b p).1 = (mCopyG c N t a b p).1 ∧ (mCopyG s N t a b p).2.1 = (mCopyG c N t a b p).2.1 := by
  have ec := E.cap t a
  have ep := E.pl t b
  obtain ⟨e1, e2, e3, e4, e5, e6, e8, e9, e10, e11, e12, e14, e13, e7⟩ := E
  unfold mCopyG
  rw [ec, ep, e14, e9]
  by_cases k : mCapa s t a = 0
  · rw [if_pos k, if_pos k]
    exact ⟨rfl, rfl⟩
  · rw [if_neg k, if_neg k]
    cases mPlace s t b with
    | none => exact ⟨rfl, rfl⟩
    | some q =>
      dsimp only
      by_cases k2 : s 14 q = 0
      · rw [if_neg (fun w => w k2), if_neg (fun w => w k2)]
        exact ⟨rfl, rfl⟩
      · rw [if_pos k2, if_pos k2]
        exact ⟨rfl, rfl⟩
theorem sim_copy (J : jS K W c s n) (ok : kOk W h) (hz : z.1 < h.1) (hC : kC W + 1 < 1200) (hK : K + 10 < 2 ^ 30) (p1 p2 p3 : Int32) : kSim z W h K c s n m (f_K_copy z) (f_M_copy z) [.int p1, .int p2, .int p3] := by
  have Kp := J.p ok hz hC
  have hnow := J.now
  by_cases hr : mNow s = 0 ∨ ¬ (rAd p1 ∧ rAd p2 ∧ rIn p3 0 (nI 7))
  · exact kSim_bad J (fun hR okR => t_M_copy_bad okR hr) (fun P => t_K_copy_bad Kp (by rw [hnow]; exact hr) P)
  have h0 : mNow s ≠ 0 := fun w => hr (Or.inl w)
  have hn : rAd p1 ∧ rAd p2 ∧ rIn p3 0 (nI 7) := Classical.byContradiction fun w => hr (Or.inr w)
  obtain ⟨a, ha, rfl⟩ := w_addr hn.1
  obtain ⟨b, hb, rfl⟩ := w_addr hn.2.1
  have J0 := J
  obtain ⟨⟨JA, JT, JE, JB⟩, JC, JD⟩ := J
  obtain ⟨q1, q2⟩ := mCopyG_q JE (kC W) (mNow s) a b p3
  have hcl := t_K_copy (z := z) Kp (by rw [hnow]; exact h0) ha hb hn.2.2
  rw [hnow] at hcl
  refine ⟨mCopyG s (kC W) (mNow s) a b p3, fun hR okR => t_M_copy okR (JA.mwf JE) JE.2.2.2.2.2.2.2.2.2.2.2.2.1 hC h0 ha hb hn.2.2, kDone_mp (kDone_q q1 q2 hcl) (fun hc W' c' X P => ?_), fun hq => ?_, by unfold mCopyG; (repeat' split) <;> first | exact i50 | exact i51 | exact i52 | exact i53 | exact i54⟩
  · obtain ⟨o, ho, D⟩ := P
    have c0 : ¬ mCapa s (mNow s) a = 0 := by
      intro w
      unfold mCopyG at hc
      rw [if_pos w] at hc
      exact absurd hc (by first | exact n20 | exact n40 | exact n10 | exact n30)
    have c0c : ¬ mCapa c (mNow s) a = 0 := by rw [JE.cap]; exact c0
    obtain ⟨l1, l2, l3, l4, -⟩ := J0.live (mNow_pos h0) (mNow_lt s) ha c0c
    have hpl : mPlace s (mNow s) b = some (8 * o + b % 8) := by
      rw [← JE.pl, mPlace_tab, ho]
      rfl
    obtain ⟨⟨th, t1, t2, t3⟩, -, r9, -⟩ := JA.2.2.2.1 _ l1 l2
    have hT := JA.1.2.1
    have et : vN (c 8 (vN (mCapa c (mNow s) a))) = th := by rw [t1, vN_nI (by omega)]
    have hs : s 14 (8 * o + b % 8) = 0 := by rw [← JE.2.2.2.2.2.2.2.2.2.2.2.1]; exact D.2.2.2.2.1
    have e2 : (mCopyG s (kC W) (mNow s) a b p3).2.2 = mPutC s (kC W) (8 * o + b % 8) (nI th) (c 9 (vN (mCapa c (mNow s) a)) &&& p3) (c 10 (vN (mCapa c (mNow s) a))) (nI (vN (mCapa c (mNow s) a))) := by
      unfold mCopyG
      rw [if_neg c0, hpl]
      dsimp only
      rw [if_neg (fun w => w hs), ← l3, ← t1, JE.cap, JE.2.2.2.2.2.2.1, JE.2.2.2.2.2.2.2.1, JE.2.2.2.2.2.2.2.2.1]
    rw [et] at D
    refine ⟨n + 1, ?_, by rw [D.2.2.2.2.2.2.1]; exact Nat.le_refl _⟩
    rw [e2]
    refine jS_mono (jS_put J0 D X hC t3 ?_ (isN_and r9) (isN_nI (by omega) (by omega)) (fun w => JD.1 _ l1 l2 (by rw [et]; exact w))) (by omega) hK
    have := JT.1 _ l1 l2 l4
    rw [et] at this
    exact this
  · unfold mCopyG at hq ⊢
    by_cases k : mCapa s (mNow s) a = 0
    · rw [if_pos k]
    · rw [if_neg k] at hq ⊢
      cases e : mPlace s (mNow s) b with
      | none => rfl
      | some q =>
        rw [e] at hq
        dsimp only at hq ⊢
        by_cases k2 : s 14 q = 0
        · rw [if_neg (fun w => w k2)] at hq
          exact absurd rfl hq
        · rw [if_pos k2]
theorem mMintG_q (E : jE W c s) (N t a b : Nat) (p v : Int32) : (mMintG s N t a b p v).1 = (mMintG c N t a b p v).1 ∧ (mMintG s N t a b p v).2.1 = (mMintG c N t a b p v).2.1 := by
  have ec := E.cap t a
  have ep := E.pl t b
  obtain ⟨e1, e2, e3, e4, e5, e6, e8, e9, e10, e11, e12, e14, e13, e7⟩ := E
  unfold mMintG
  rw [ec, ep, e14, e9, e1, e8, e10]
  by_cases k : mCapa s t a = 0
  · rw [if_pos k, if_pos k]
    exact ⟨rfl, rfl⟩
  · rw [if_neg k, if_neg k]
    cases mPlace s t b with
    | none => exact ⟨rfl, rfl⟩
    | some q =>
      dsimp only
      split
      · exact ⟨rfl, rfl⟩
      · split <;> exact ⟨rfl, rfl⟩
theorem sim_mint (J : jS K W c s n) (ok : kOk W h) (hz : z.1 < h.1) (hC : kC W + 1 < 1200) (hK : K + 10 < 2 ^ 30) (p1 p2 p3 p4 : Int32) : kSim z W h K c s n m (f_K_mint z) (f_M_mint z) [.int p1, .int p2, .int p3, .int p4] := by
  have Kp := J.p ok hz hC
  have hnow := J.now
  by_cases hr : mNow s = 0 ∨ ¬ (rAd p1 ∧ rAd p2 ∧ rIn p3 0 (nI 7) ∧ rIn p4 1 (nI 255))
  · exact kSim_bad J (fun hR okR => t_M_mint_bad okR hr) (fun P => t_K_mint_bad Kp (by rw [hnow]; exact hr) P)
  have h0 : mNow s ≠ 0 := fun w => hr (Or.inl w)
  have hn : rAd p1 ∧ rAd p2 ∧ rIn p3 0 (nI 7) ∧ rIn p4 1 (nI 255) := Classical.byContradiction fun w => hr (Or.inr w)
  obtain ⟨a, ha, rfl⟩ := w_addr hn.1
  obtain ⟨b, hb, rfl⟩ := w_addr hn.2.1
  have J0 := J
  obtain ⟨⟨JA, JT, JE, JB⟩, JC, JD⟩ := J
  obtain ⟨q1, q2⟩ := mMintG_q JE (kC W) (mNow s) a b p3 p4
  have hcl := t_K_mint (z := z) Kp (by rw [hnow]; exact h0) ha hb hn.2.2.1 hn.2.2.2
  rw [hnow] at hcl
  refine ⟨mMintG s (kC W) (mNow s) a b p3 p4, fun hR okR => t_M_mint okR (JA.mwf JE) JE.2.2.2.2.2.2.2.2.2.2.2.2.1 hC h0 ha hb hn.2.2.1 hn.2.2.2, kDone_mp (kDone_q q1 q2 hcl) (fun hc W' c' X P => ?_), fun hq => ?_, by unfold mMintG; (repeat' split) <;> first | exact i50 | exact i51 | exact i52 | exact i53 | exact i54⟩
  · obtain ⟨o, ho, D⟩ := P
    have c0 : ¬ mCapa s (mNow s) a = 0 := by
      intro w
      unfold mMintG at hc
      rw [if_pos w] at hc
      exact absurd hc (by first | exact n20 | exact n40 | exact n10 | exact n30)
    have c0c : ¬ mCapa c (mNow s) a = 0 := by rw [JE.cap]; exact c0
    obtain ⟨l1, l2, l3, l4, -⟩ := J0.live (mNow_pos h0) (mNow_lt s) ha c0c
    have hpl : mPlace s (mNow s) b = some (8 * o + b % 8) := by
      rw [← JE.pl, mPlace_tab, ho]
      rfl
    obtain ⟨⟨th, t1, t2, t3⟩, -, r9, -⟩ := JA.2.2.2.1 _ l1 l2
    have hT := JA.1.2.1
    have et : vN (c 8 (vN (mCapa c (mNow s) a))) = th := by rw [t1, vN_nI (by omega)]
    have hs : s 14 (8 * o + b % 8) = 0 := by rw [← JE.2.2.2.2.2.2.2.2.2.2.2.1]; exact D.2.2.2.2.1
    have e2 : (mMintG s (kC W) (mNow s) a b p3 p4).2.2 = mPutC s (kC W) (8 * o + b % 8) (nI th) (c 9 (vN (mCapa c (mNow s) a)) &&& p3) p4 (nI (vN (mCapa c (mNow s) a))) ∧ c 10 (vN (mCapa c (mNow s) a)) = 0 := by
      unfold mMintG at hc ⊢
      rw [if_neg c0, hpl] at hc ⊢
      dsimp only at hc ⊢
      by_cases k1 : s 1 (vN (s 8 (vN (mCapa s (mNow s) a)))) = 1 ∨ s 1 (vN (s 8 (vN (mCapa s (mNow s) a)))) = nI 2
      · rw [if_neg (fun w => w k1)] at hc ⊢
        by_cases k2 : s 10 (vN (mCapa s (mNow s) a)) = 0 ∧ s 14 (8 * o + b % 8) = 0
        · rw [if_neg (fun w => w k2), ← l3, ← t1, JE.cap, JE.2.2.2.2.2.2.1, JE.2.2.2.2.2.2.2.1, JE.2.2.2.2.2.2.2.2.1]
          exact ⟨rfl, k2.1⟩
        · rw [if_pos k2] at hc
          exact absurd hc (by first | exact n20 | exact n40 | exact n10 | exact n30)
      · rw [if_pos k1] at hc
        exact absurd hc (by first | exact n20 | exact n40 | exact n10 | exact n30)
    rw [et] at D
    refine ⟨n + 1, ?_, by rw [D.2.2.2.2.2.2.1]; exact Nat.le_refl _⟩
    rw [e2.1]
    refine jS_mono (jS_put J0 D X hC t3 ?_ (isN_and r9) (isN_nI (by omega) (by omega)) (fun w => absurd e2.2 (JD.1 _ l1 l2 (by rw [et]; exact w)).2)) (by omega) hK
    have := JT.1 _ l1 l2 l4
    rw [et] at this
    exact this
  · unfold mMintG at hq ⊢
    by_cases k : mCapa s (mNow s) a = 0
    · rw [if_pos k]
    · rw [if_neg k] at hq ⊢
      cases e : mPlace s (mNow s) b with
      | none => rfl
      | some q =>
        rw [e] at hq
        dsimp only at hq ⊢
        split
        · rfl
        · rename_i k1
          rw [if_neg k1] at hq
          split
          · rfl
          · rename_i k2
            rw [if_neg k2] at hq
            exact absurd rfl hq
theorem mMoveG_q (E : jE W c s) (t a b : Nat) : (mMoveG s t a b).1 = (mMoveG c t a b).1 ∧ (mMoveG s t a b).2.1 = (mMoveG c t a b).2.1 := by
  have ec := E.cap t a
  have ep := E.pl t b
  obtain ⟨e1, e2, e3, e4, e5, e6, e8, e9, e10, e11, e12, e14, e13, e7⟩ := E
  unfold mMoveG
  rw [ec, ep, e14, e1, e8]
  by_cases k : mCapa s t a = 0
  · rw [if_pos k, if_pos k]
    exact ⟨rfl, rfl⟩
  · rw [if_neg k, if_neg k]
    cases mPlace s t b with
    | none => exact ⟨rfl, rfl⟩
    | some q =>
      dsimp only
      split <;> exact ⟨rfl, rfl⟩
theorem sim_move (J : jS K W c s n) (ok : kOk W h) (hz : z.1 < h.1) (hC : kC W + 1 < 1200) (hK : K + 10 < 2 ^ 30) (p1 p2 : Int32) : kSim z W h K c s n m (f_K_move z) (f_M_move z) [.int p1, .int p2] := by
  have Kp := J.p ok hz hC
  have hnow := J.now
  by_cases hr : mNow s = 0 ∨ ¬ (rAd p1 ∧ rAd p2)
  · exact kSim_bad J (fun hR okR => t_M_move_bad okR hr) (fun P => t_K_move_bad Kp (by rw [hnow]; exact hr) P)
  have h0 : mNow s ≠ 0 := fun w => hr (Or.inl w)
  have hn : rAd p1 ∧ rAd p2 := Classical.byContradiction fun w => hr (Or.inr w)
  obtain ⟨a, ha, rfl⟩ := w_addr hn.1
  obtain ⟨b, hb, rfl⟩ := w_addr hn.2
  have J0 := J
  obtain ⟨⟨JA, JT, JE, JB⟩, JC, JD⟩ := J
  obtain ⟨q1, q2⟩ := mMoveG_q JE (mNow s) a b
  obtain ⟨o', i', hS⟩ : ∃ o' i', ¬ mCapa c (mNow s) a = 0 → kS1 W c (vN (mCapa c (mNow s) a)) o' i' := by
    by_cases k : mCapa c (mNow s) a = 0
    · exact ⟨0, 0, fun w => absurd k w⟩
    · obtain ⟨l1, l2, l3, l4, -⟩ := J0.live (mNow_pos h0) (mNow_lt s) ha k
      obtain ⟨o', i', S⟩ := JA.s1 l1 l2 l4
      exact ⟨o', i', fun _ => S⟩
  have hcl := t_K_move (z := z) (o' := o') (i' := i') Kp (by rw [hnow]; exact h0) ha hb (by rw [hnow]; exact hS)
  rw [hnow] at hcl
  refine ⟨mMoveG s (mNow s) a b, fun hR okR => t_M_move okR (JA.mwf JE) h0 ha hb, kDone_mp (kDone_q q1 q2 hcl) (fun hc W' c' X P => ?_), fun hq => ?_, by unfold mMoveG; (repeat' split) <;> first | exact i50 | exact i51 | exact i52 | exact i53 | exact i54⟩
  · obtain ⟨o, ho, g1, g2, g3, g4, g5⟩ := P
    subst g4 g5
    have c0 : ¬ mCapa s (mNow s) a = 0 := by
      intro w
      unfold mMoveG at hc
      rw [if_pos w] at hc
      exact absurd hc (by first | exact n20 | exact n40 | exact n10 | exact n30)
    have c0c : ¬ mCapa c (mNow s) a = 0 := by rw [JE.cap]; exact c0
    obtain ⟨l1, l2, l3, l4, -⟩ := J0.live (mNow_pos h0) (mNow_lt s) ha c0c
    have S := hS c0c
    have hpl : mPlace s (mNow s) b = some (8 * o + b % 8) := by
      rw [← JE.pl, mPlace_tab, ho]
      rfl
    have b3 := JA.1.2.2.1
    have hT := JA.1.2.1
    have s1 := S.1
    have s2 := S.2.1
    have hsl : mSlotOf s (mCapa s (mNow s) a) = some (8 * o' + i') := by
      refine mSlotOf_eq ?_ (by omega) ?_
      · rw [← JE.2.2.2.2.2.2.2.2.2.2.2.1, S.2.2.2.2.2, ← JE.cap, ← l3]
      · intro q' hq' w
        rw [← JE.2.2.2.2.2.2.2.2.2.2.2.1, ← JE.cap, l3] at w
        exact JA.one (by omega) hq' l1 (by omega) S.2.2.2.2.2 w
    have e2 : (mMoveG s (mNow s) a b).2.2 = sS (sS s 14 (8 * o' + i') 0) 14 (8 * o + b % 8) (nI (vN (mCapa c (mNow s) a))) := by
      unfold mMoveG at hc ⊢
      rw [if_neg c0, hpl] at hc ⊢
      dsimp only at hc ⊢
      split
      · rename_i k
        rw [if_pos k] at hc
        exact absurd hc (by first | exact n20 | exact n40 | exact n10 | exact n30)
      · rw [hsl, ← JE.cap, ← l3]
        rfl
    refine ⟨n, ?_, Nat.le_succ _⟩
    rw [e2]
    refine jS_mono (K := K) ⟨⟨jA_mv JA l1 l2 l4 S g1 (Nat.mod_lt _ (by decide)) g2 g3, JT, ?_, JB⟩, JC, JD⟩ (by omega) hK
    obtain ⟨e1, e2, e3, e4, e5, e6, e8, e9, e10, e11, e12, e14, e13, e7⟩ := JE
    refine ⟨e1, e2, e3, e4, e5, e6, e8, e9, e10, e11, e12, ?_, e13, e7⟩
    funext q
    rw [kMv_14]
    simp only [sS_app, true_and, e14]
  · unfold mMoveG at hq ⊢
    by_cases k : mCapa s (mNow s) a = 0
    · rw [if_pos k]
    · rw [if_neg k] at hq ⊢
      cases e : mPlace s (mNow s) b with
      | none => rfl
      | some q =>
        rw [e] at hq
        dsimp only at hq ⊢
        split
        · rfl
        · rename_i k1
          rw [if_neg k1] at hq
          exact absurd rfl hq
end LJ
