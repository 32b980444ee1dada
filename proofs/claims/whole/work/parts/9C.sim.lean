/-! Alike: retype. -/
section LN
variable {z : xzs} {W : kW} {h : xH} {c s : mS} {n K m : Nat}
theorem mRetG_q (E : jE W c s) (N x t a b : Nat) (k : Int32) : (mRetG s N x t a b k).1 = (mRetG c N x t a b k).1 ∧ (mRetG s N x t a b k).2.1 = (mRetG c N x t a b k).2.1 := by
  have ec := E.cap t a
  have ep := E.pl t b
  obtain ⟨e1, e2, e3, e4, e5, e6, e8, e9, e10, e11, e12, e14, e13, e7⟩ := E
  unfold mRetG
  rw [ec, ep, e14, e9, e1, e8, e2, e3]
  by_cases k0 : mCapa s t a = 0
  · rw [if_pos k0, if_pos k0]
    exact ⟨rfl, rfl⟩
  · rw [if_neg k0, if_neg k0]
    cases mPlace s t b with
    | none => exact ⟨rfl, rfl⟩
    | some q =>
      dsimp only
      split
      · exact ⟨rfl, rfl⟩
      · split
        · exact ⟨rfl, rfl⟩
        · split <;> exact ⟨rfl, rfl⟩
theorem jE_obj {W1 : kW} (E : jE W c s) (hT : kT W1 = kT W + 1) (hCe : kC W1 = kC W) {o : Nat} {k : Int32} (ho : o < kT W) (hF : c 3 (kT W) = 0 ∧ c 4 (kT W) = 0) : jE W1 (kRet1 c (kT W) k o) (mObj s o (kT W) k) := by
  obtain ⟨e1, e2, e3, e4, e5, e6, e8, e9, e10, e11, e12, e14, e13, e7⟩ := E
  have fn := fun f h1 h2 h3 h4 h5 h6 h7 h8 h9 h10 => kRet_fn (c := c) (x := kT W) (o := o) (k := k) (f := f) h1 h2 h3 h4 h5 h6 h7 h8 h9 h10
  have hox : o ≠ kT W := by omega
  refine ⟨?_, ?_, ?_, ?_, ?_, ?_, ?_, ?_, ?_, ?_, ?_, ?_, ?_, ?_⟩
  · funext y
    simp only [kRet1, kMkS, tNew, mObj, sS_app, Nat.reduceEqDiff, false_and, true_and, ↓reduceIte, e1]
  · funext y
    simp only [kRet1, kMkS, tNew, mObj, sS_app, Nat.reduceEqDiff, false_and, true_and, ↓reduceIte, e2]
  · funext y
    by_cases q : y = kT W
    · subst q
      rw [kRet_x3]
      have : mObj s o (kT W) k 3 (kT W) = s 3 (kT W) := by
        simp only [mObj, sS_app, Nat.reduceEqDiff, false_and, true_and, ↓reduceIte, hox.symm]
      rw [this, ← e3, hF.1]
    · simp only [kRet1, kMkS, tNew, mObj, sS_app, Nat.reduceEqDiff, false_and, true_and, ↓reduceIte, q, e3]
  · funext y
    by_cases q : y = kT W
    · subst q
      have a1 : kRet1 c (kT W) k o 4 (kT W) = 0 := by
        simp only [kRet1, kMkS, tNew, sS_app, Nat.reduceEqDiff, false_and, and_self, ↓reduceIte]
      have a2 : mObj s o (kT W) k 4 (kT W) = s 4 (kT W) := by
        simp only [mObj, sS_app, Nat.reduceEqDiff, false_and, ↓reduceIte]
      rw [a1, a2, ← e4, hF.2]
    · simp only [kRet1, kMkS, tNew, mObj, sS_app, Nat.reduceEqDiff, false_and, true_and, ↓reduceIte, q, e4]
  · funext y
    simp only [kRet1, kMkS, tNew, mObj, sS_app, Nat.reduceEqDiff, false_and, true_and, ↓reduceIte, e5]
  · funext y
    simp only [kRet1, kMkS, tNew, mObj, sS_app, Nat.reduceEqDiff, false_and, true_and, ↓reduceIte, e6]
  · rw [fn _ (by decide) (by decide) (by decide) (by decide) (by decide) (by decide) (by decide) (by decide) (by decide) (by decide)]; exact e8
  · rw [fn _ (by decide) (by decide) (by decide) (by decide) (by decide) (by decide) (by decide) (by decide) (by decide) (by decide)]; exact e9
  · rw [fn _ (by decide) (by decide) (by decide) (by decide) (by decide) (by decide) (by decide) (by decide) (by decide) (by decide)]; exact e10
  · rw [fn _ (by decide) (by decide) (by decide) (by decide) (by decide) (by decide) (by decide) (by decide) (by decide) (by decide)]; exact e11
  · rw [fn _ (by decide) (by decide) (by decide) (by decide) (by decide) (by decide) (by decide) (by decide) (by decide) (by decide)]; exact e12
  · rw [fn _ (by decide) (by decide) (by decide) (by decide) (by decide) (by decide) (by decide) (by decide) (by decide) (by decide)]; exact e14
  · rw [hCe]; exact e13
  · rw [hT]
    simp only [mObj, sS_app, Nat.reduceEqDiff, false_and, and_self, ↓reduceIte]
theorem jS_obj (J : jS K W c s n) (hT : kT W < 50) {o : Nat} {k : Int32} (g : Nat → Nat → Nat) (o1 : 5 ≤ o) (o2 : o < kT W) (hs : ¬ c 2 o < c 3 o + mTakes k) : jS K (kA W, g, kcap W, kT W + 1, kC W) (kRet1 c (kT W) k o) (mObj s o (kT W) k) n := by
  obtain ⟨⟨JA, JT, JE, JB⟩, JC, JD⟩ := J
  have fn := fun f h1 h2 h3 h4 h5 h6 h7 h8 h9 h10 => kRet_fn (c := c) (x := kT W) (o := o) (k := k) (f := f) h1 h2 h3 h4 h5 h6 h7 h8 h9 h10
  have JA' : jA (kA W, g, kcap W, kT W + 1, kC W) (kRet1 c (kT W) k o) n := jA_ret JA hT 0 o1 o2 hs
  have h10 := JA.1.1
  refine ⟨⟨JA', ⟨fun j j1 j2 j3 => ?_, ?_⟩, jE_obj (W1 := (kA W, g, kcap W, kT W + 1, kC W)) JE rfl rfl o2 (JD.2 _ (Nat.le_refl _)), ?_⟩, ?_, ⟨?_, fun x hx => ?_⟩⟩
  · rw [fn 12 (by decide) (by decide) (by decide) (by decide) (by decide) (by decide) (by decide) (by decide) (by decide) (by decide)] at j3
    rw [fn 8 (by decide) (by decide) (by decide) (by decide) (by decide) (by decide) (by decide) (by decide) (by decide) (by decide)]
    obtain ⟨⟨y, y1, y2, -⟩, -⟩ := JA.2.2.2.1 j j1 j2
    have := JT.1 j j1 j2 j3
    rw [y1, vN_nI (by omega)] at this ⊢
    rw [kRet_ne (by omega) (by omega) (by omega) (by decide) (by decide)]
    exact this
  · rw [kRet_ne (by omega) (by omega) (by omega) (by decide) (by decide)]
    exact JT.2
  · refine jB_of JB (fun f hf => fn f (by omega) (by omega) (by omega) (by omega) (by omega) (by omega) (by omega) (by omega) (by omega) (by omega)) (fun f hf => ?_) (fun x hx => kRet_ne (by omega) (by omega) (by omega) (by decide) (by decide)) (Nat.le_succ _) (Nat.le_refl _)
    unfold mObj
    rw [sS_fn (by omega), sS_fn (by omega), sS_fn (by omega), sS_fn (by omega), sS_fn (by omega), sS_fn (by omega)]
  · unfold jC
    rw [fn 36 (by decide) (by decide) (by decide) (by decide) (by decide) (by decide) (by decide) (by decide) (by decide) (by decide), fn 37 (by decide) (by decide) (by decide) (by decide) (by decide) (by decide) (by decide) (by decide) (by decide) (by decide), fn 35 (by decide) (by decide) (by decide) (by decide) (by decide) (by decide) (by decide) (by decide) (by decide) (by decide), fn 73 (by decide) (by decide) (by decide) (by decide) (by decide) (by decide) (by decide) (by decide) (by decide) (by decide), fn 74 (by decide) (by decide) (by decide) (by decide) (by decide) (by decide) (by decide) (by decide) (by decide) (by decide), fn 75 (by decide) (by decide) (by decide) (by decide) (by decide) (by decide) (by decide) (by decide) (by decide) (by decide)]
    exact JC
  · intro j j1 j2 j3
    rw [fn 8 (by decide) (by decide) (by decide) (by decide) (by decide) (by decide) (by decide) (by decide) (by decide) (by decide)] at j3
    rw [fn 10 (by decide) (by decide) (by decide) (by decide) (by decide) (by decide) (by decide) (by decide) (by decide) (by decide)]
    exact JD.1 j j1 j2 j3
  · have hx : kT W + 1 ≤ x := hx
    rw [kRet_ne (by omega) (by omega) (by omega) (by decide) (by decide), kRet_ne (by omega) (by omega) (by omega) (by decide) (by decide)]
    exact JD.2 x (by omega)
theorem sim_retype (J : jS K W c s n) (ok : kOk W h) (hz : z.1 < h.1) (hC : kC W + 1 < 1200) (hK : K + 10 < 2 ^ 30) (p1 p2 p3 : Int32) : kSim z W h K c s n m (f_K_retype z) (f_M_retype z) [.int p1, .int p2, .int p3] := by
  have Kp := J.p ok hz hC
  have hnow := J.now
  by_cases hr : mNow s = 0 ∨ ¬ (rAd p1 ∧ rIn p2 0 (nI 3) ∧ rAd p3)
  · exact kSim_bad J (fun hR okR => t_M_retype_bad okR hr) (fun P => t_K_retype_bad Kp (by rw [hnow]; exact hr) P)
  have h0 : mNow s ≠ 0 := fun w => hr (Or.inl w)
  have hn : rAd p1 ∧ rIn p2 0 (nI 3) ∧ rAd p3 := Classical.byContradiction fun w => hr (Or.inr w)
  obtain ⟨a, ha, rfl⟩ := w_addr hn.1
  obtain ⟨b, hb, rfl⟩ := w_addr hn.2.2
  have J0 := J
  obtain ⟨⟨JA, JT, JE, JB⟩, JC, JD⟩ := J
  have hT := JA.1.2.1
  obtain ⟨q1, q2⟩ := mRetG_q JE (kC W) (kT W) (mNow s) a b p2
  have a9 := JA.2.2.2.2.2.2.2.2.2
  have a8 := JA.2.2.2.2.2.2.2.2.1
  have Q : kT W < 50 → kRg W c := fun hlt => JA.rg (fun t t1 t2 => ⟨by
    rcases JB.wa t t1 t2 with e | ⟨o, o1, e⟩
    · rw [e]; exact Nat.zero_le _
    · rw [e, vN_nI (by omega)]; omega, (JB.2.2.2.2.2.2.2.2.2 t t1 t2).2⟩) hlt
  have hcl := t_K_retype (z := z) (k := p2) Kp Q (by rw [hnow]; exact h0) ha hb hn.2.1 hT a8.2.2 (by rw [a9.2.1]; decide) a9.1
  rw [hnow] at hcl
  refine ⟨mRetG s (kC W) (kT W) (mNow s) a b p2, fun hR okR => t_M_retype okR (JA.mwf JE) JE.2.2.2.2.2.2.2.2.2.2.2.2.1 hC JE.2.2.2.2.2.2.2.2.2.2.2.2.2 hT h0 ha hb hn.2.1, kDone_mp (kDone_q q1 q2 hcl) (fun hc W' c' X P => ?_), fun hq => ?_, by unfold mRetG; (repeat' split) <;> first | exact i50 | exact i51 | exact i52 | exact i53 | exact i54⟩
  · obtain ⟨o', ho', g1, g2, g3, g4, g5, g6, g7, rfl⟩ := P
    have c0 : ¬ mCapa s (mNow s) a = 0 := by
      intro w
      unfold mRetG at hc
      rw [if_pos w] at hc
      exact absurd hc n20
    have c0c : ¬ mCapa c (mNow s) a = 0 := by rw [JE.cap]; exact c0
    obtain ⟨l1, l2, l3, l4, -⟩ := J0.live (mNow_pos h0) (mNow_lt s) ha c0c
    have hpl : mPlace s (mNow s) b = some (8 * o' + b % 8) := by
      rw [← JE.pl, mPlace_tab, ho']
      rfl
    obtain ⟨⟨th, t1, t2, t3⟩, -, r9, -⟩ := JA.2.2.2.1 _ l1 l2
    have et : vN (c 8 (vN (mCapa c (mNow s) a))) = th := by rw [t1, vN_nI (by omega)]
    have ets : vN (s 8 (vN (mCapa s (mNow s) a))) = th := by rw [← JE.cap, ← JE.2.2.2.2.2.2.1]; exact et
    have hs : s 14 (8 * o' + b % 8) = 0 := by rw [← JE.2.2.2.2.2.2.2.2.2.2.2.1]; exact g3
    have e2 : (mRetG s (kC W) (kT W) (mNow s) a b p2).2.2 = mRetS s (kC W) (8 * o' + b % 8) th (kT W) (vN (mCapa s (mNow s) a)) p2 ∧ s 1 th = 0 ∧ ¬ s 2 th < s 3 th + mTakes p2 := by
      unfold mRetG at hc ⊢
      rw [if_neg c0, hpl] at hc ⊢
      dsimp only at hc ⊢
      rw [ets] at hc ⊢
      by_cases k1 : s 1 th = 0
      · rw [if_neg (fun w => w k1)] at hc ⊢
        by_cases k2 : s 9 (vN (mCapa s (mNow s) a)) &&& nI 2 = nI 2
        · rw [if_neg (fun w => w k2)] at hc ⊢
          split
          · rename_i k3
            rw [if_pos k3] at hc
            exact absurd hc n40
          · rename_i k3
            exact ⟨rfl, k1, fun w => k3 (Or.inr (Or.inl w))⟩
        · rw [if_pos k2] at hc
          exact absurd hc n30
      · rw [if_pos k1] at hc
        exact absurd hc n10
    obtain ⟨e2, e3, e4⟩ := e2
    have th5 : 5 ≤ th := by
      rcases t3 with w | w
      · exfalso
        have c1 : c 1 th = 0 := by rw [JE.1]; exact e3
        have : th = 0 ∨ th = 1 := by omega
        rcases this with y | y
        · rw [y, a9.2.1] at c1; exact absurd c1 (by decide)
        · rw [y, a9.2.2.1] at c1; exact absurd c1 (by decide)
      · exact w
    rw [et]
    have J1 := jS_obj J0 g4 (o := th) (k := p2) (kg W') th5 t2 (by rw [JE.2.1, JE.2.2.1]; exact e4)
    have D : kAdd1 (kA W, kg W', kcap W, kT W + 1, kC W) (kRet1 c (kT W) p2 th) n (kT W) (nI 7) 0 (nI (vN (mCapa c (mNow s) a))) o' (b % 8) W' (kDerS (kRet1 c (kT W) p2 th) (kC W + 1) (kT W) (nI 7) 0 (nI (vN (mCapa c (mNow s) a))) o' (b % 8) n) := by
      refine ⟨Nat.lt_succ_self _, Nat.lt_succ_of_lt g1, Nat.mod_lt _ (by decide), ?_, ?_, g5, g6, g7, rfl⟩
      · rw [kRet_ne (by omega) (by omega) (by omega) (by decide) (by decide)]; exact g2
      · rw [kRet_fn (by decide) (by decide) (by decide) (by decide) (by decide) (by decide) (by decide) (by decide) (by decide) (by decide)]; exact g3
    have h10 := JA.1.1
    refine ⟨n + 1, ?_, by rw [g6]; exact Nat.le_refl _⟩
    rw [e2]
    unfold mRetS
    rw [← JE.cap]
    refine jS_mono (jS_put J1 D ⟨fun _ _ _ _ => rfl, X.2⟩ hC (Or.inr (by omega)) (by rw [kRet_x6]; decide) (isN_nI (by decide) (by decide)) (isN_nI (by show _ < kC W + 1; omega) (by show kC W + 1 ≤ _; omega)) (fun w => by omega)) (by omega) hK
  · unfold mRetG at hq ⊢
    by_cases k : mCapa s (mNow s) a = 0
    · rw [if_pos k]
    · rw [if_neg k] at hq ⊢
      cases e : mPlace s (mNow s) b with
      | none => rfl
      | some q =>
        rw [e] at hq
        dsimp only at hq ⊢
        split
        · rfl
        · rename_i k1
          rw [if_neg k1] at hq
          split
          · rfl
          · rename_i k2
            rw [if_neg k2] at hq
            split
            · rfl
            · rename_i k3
              rw [if_neg k3] at hq
              exact absurd rfl hq
end LN
