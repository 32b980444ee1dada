/-! Alike: signal; the list and the living; look, count. -/
section LL
variable {z : xzs} {W : kW} {h : xH} {c s : mS} {n K m : Nat}
theorem jB_sigW (JB : jB K W c s) (hT : kT W ≤ 50) (hK : K + 1 < 2 ^ 30) {o : Nat} (ho : o < kT W) (hk : c 1 o = nI 2) (e4 : c 4 = s 4) : jB (K + 1) W (kSigW c o) (mSigW s o) := by
  have ef := jB_sig JB hT ho hk
  have fl := mWaiting_lt s (nI o) (nI 5) (nI 5)
  unfold kSigW mSigW
  rw [ef]
  by_cases k : mWaiting s (nI o) (nI 5) (nI 5) = 0
  · rw [if_pos k, if_pos k]
    exact jB_mono JB (by omega) hK
  · rw [if_neg k, if_neg k, e4]
    exact jB_mono (jB_ready (jB_4 (jB_comes JB _ (s 4 o) 0 (-1)) o 0 0) (by omega) fl hK) (by omega) hK
theorem kSigW_fn {o f : Nat} (h1 : f ≠ 4) (h2 : f ≠ 15) (h3 : f ≠ 16) (h4 : f ≠ 17) (h5 : f ≠ 18) (h6 : f ≠ 19) (h7 : f ≠ 21) (h8 : f ≠ 31) (h9 : f ≠ 52) : kSigW c o f = c f := by
  unfold kSigW
  split
  · rfl
  · unfold kReady mComes
    rw [sS_fn h7, sS_fn h8, sS_fn h9, sS_fn h2, sS_fn h1, sS_fn h6, sS_fn h5, sS_fn h4, sS_fn h3]
theorem mSigW_fn {o f : Nat} (h1 : f ≠ 4) (h2 : f ≠ 15) (h3 : f ≠ 16) (h4 : f ≠ 17) (h5 : f ≠ 18) (h6 : f ≠ 19) (h7 : f ≠ 21) (h8 : f ≠ 31) : mSigW s o f = s f := by
  unfold mSigW
  split
  · rfl
  · unfold mReady mComes
    rw [sS_fn h2, sS_fn h7, sS_fn h8, sS_fn h1, sS_fn h6, sS_fn h5, sS_fn h4, sS_fn h3]
theorem sigW_4 (JB : jB K W c s) (hT : kT W ≤ 50) {o : Nat} (ho : o < kT W) (hk : c 1 o = nI 2) (e4 : c 4 = s 4) : kSigW c o 4 = mSigW s o 4 := by
  have ef := jB_sig JB hT ho hk
  unfold kSigW mSigW
  rw [ef]
  by_cases k : mWaiting s (nI o) (nI 5) (nI 5) = 0
  · rw [if_pos k, if_pos k]
    exact e4
  · rw [if_neg k, if_neg k]
    funext x
    simp only [kReady, mReady, mComes, sS_app, Nat.reduceEqDiff, false_and, true_and, ↓reduceIte, e4]
theorem sim_signal (J : jS K W c s n) (ok : kOk W h) (hz : z.1 < h.1) (hC : kC W + 1 < 1200) (hK : K + 10 < 2 ^ 30) (p1 : Int32) : kSim z W h K c s n m (f_K_signal z) (f_M_signal z) [.int p1] := by
  have Kp := J.p ok hz hC
  have hnow := J.now
  by_cases hr : mNow s = 0 ∨ ¬ rAd p1
  · exact kSim_bad J (fun hR okR => t_M_signal_bad okR hr) (fun P => t_K_signal_bad Kp (by rw [hnow]; exact hr) P)
  have h0 : mNow s ≠ 0 := fun w => hr (Or.inl w)
  obtain ⟨a, ha, rfl⟩ := w_addr (x := p1) (Classical.byContradiction fun w => hr (Or.inr w))
  have t1 := mNow_pos h0
  have t2 := mNow_lt s
  have J0 := J
  obtain ⟨⟨JA, JT, JE, JB⟩, JC, JD⟩ := J
  have hcl := t_K_signal (z := z) Kp (by rw [hnow]; exact h0) ha
  rw [hnow] at hcl
  have je := JE
  obtain ⟨e1, e2, e3, e4, e5, e6, e8, e9, e10, e11, e12, e14, e13, e7⟩ := je
  have ec := JE.cap (mNow s) a
  have hT := JA.1.2.1
  by_cases k0 : mCapa s (mNow s) a = 0
  · refine ⟨mSignalG s (mNow s) a, fun hR okR => t_M_signal okR (JA.mwf JE) rfl h0 ha, kDone_mp (kDone_q ?_ ?_ hcl) (fun hc => ?_), fun _ => ?_, by unfold mSignalG; (repeat' split) <;> first | exact i50 | exact i51 | exact i52 | exact i53 | exact i54⟩
    · unfold mSignalG kSignalG; rw [ec, if_pos k0, if_pos k0]
    · unfold mSignalG kSignalG; rw [ec, if_pos k0, if_pos k0]
    · unfold mSignalG at hc; rw [if_pos k0] at hc; exact absurd hc n20
    · unfold mSignalG; rw [if_pos k0]
  obtain ⟨l1, l2, l3, l4, -⟩ := J0.live t1 t2 ha (by rw [ec]; exact k0)
  rw [ec] at l1 l2 l3 l4
  obtain ⟨⟨th, g1, g2, g3⟩, -⟩ := JA.2.2.2.1 _ l1 l2
  rw [e8] at g1
  have et : vN (s 8 (vN (mCapa s (mNow s) a))) = th := by rw [g1, vN_nI (by omega)]
  by_cases k1 : s 1 th = nI 2
  · by_cases k2 : s 9 (vN (mCapa s (mNow s) a)) &&& nI 2 = nI 2
    · have kc : c 1 th = nI 2 := by rw [e1]; exact k1
      generalize hb : (if s 10 (vN (mCapa s (mNow s) a)) = 0 then (1 : Int32) else s 10 (vN (mCapa s (mNow s) a))) = b at *
      have f4 : mSigB c th b 4 = mSigB s th b 4 := by
        funext x
        simp only [mSigB, sS_app, true_and, e4]
      have JBb : jB K W (mSigB c th b) (mSigB s th b) := JB
      have JBw := jB_sigW JBb hT (by omega) g2 kc f4
      have hfn := kSigW_fn (c := mSigB c th b) (o := th) (f := 1) (by decide) (by decide) (by decide) (by decide) (by decide) (by decide) (by decide) (by decide) (by decide)
      have hhow := jB_how JBw hT g2 (by rw [hfn]; exact kc)
      have eq : mSignalG s (mNow s) a = (0, nI (mN5 (mSigW (mSigB s th b) th) (nI th)), mSigW (mSigB s th b) th) := by
        unfold mSignalG
        rw [if_neg k0, et, if_neg (fun w => w k1), if_neg (fun w => w k2), hb, g1]
      have eqc : kSignalG c (mNow s) a = (0, nI (kHow (kSigW (mSigB c th b) th) th), c) := by
        unfold kSignalG kSigS
        rw [ec, if_neg k0, e8, et, e1, if_neg (fun w => w k1), e9, if_neg (fun w => w k2), e10, hb]
      refine ⟨mSignalG s (mNow s) a, fun hR okR => t_M_signal okR (JA.mwf JE) rfl h0 ha, kDone_mp (kDone_q ?_ ?_ hcl) (fun hc W' c' X P => ?_), fun w => ?_, by unfold mSignalG; (repeat' split) <;> first | exact i50 | exact i51 | exact i52 | exact i53 | exact i54⟩
      · rw [eq, eqc]
      · rw [eq, eqc, hhow]
      · obtain ⟨rfl, rfl⟩ := P
        rw [eq]
        dsimp only
        unfold kSigS
        rw [ec, e8, et, e10, hb]
        refine ⟨n, jS_mono (K := K + 1) ⟨⟨?_, ?_, ?_, JBw⟩, ?_, ?_⟩ (by omega) hK, Nat.le_succ _⟩
        · have JA1 : jA W' (mSigB c th b) n := jA_of JA rfl rfl rfl rfl rfl rfl rfl rfl rfl rfl rfl rfl rfl rfl rfl rfl rfl rfl
          refine jA_of JA1 ?_ ?_ ?_ ?_ ?_ ?_ ?_ ?_ ?_ ?_ ?_ ?_ ?_ ?_ ?_ ?_ ?_ ?_ <;> exact kSigW_fn (by decide) (by decide) (by decide) (by decide) (by decide) (by decide) (by decide) (by decide) (by decide)
        · unfold jAt
          rw [kSigW_fn (f := 12) (by decide) (by decide) (by decide) (by decide) (by decide) (by decide) (by decide) (by decide) (by decide), kSigW_fn (f := 6) (by decide) (by decide) (by decide) (by decide) (by decide) (by decide) (by decide) (by decide) (by decide), kSigW_fn (f := 8) (by decide) (by decide) (by decide) (by decide) (by decide) (by decide) (by decide) (by decide) (by decide)]
          exact JT
        · have kf := fun f h1 h2 h3 h4 h5 h6 h7 h8 h9 => kSigW_fn (c := mSigB c th b) (o := th) (f := f) h1 h2 h3 h4 h5 h6 h7 h8 h9
          have sf := fun f h1 h2 h3 h4 h5 h6 h7 h8 => mSigW_fn (s := mSigB s th b) (o := th) (f := f) h1 h2 h3 h4 h5 h6 h7 h8
          refine ⟨?_, ?_, ?_, sigW_4 JBb hT g2 kc f4, ?_, ?_, ?_, ?_, ?_, ?_, ?_, ?_, ?_, ?_⟩
          · rw [kf _ (by decide) (by decide) (by decide) (by decide) (by decide) (by decide) (by decide) (by decide) (by decide), sf _ (by decide) (by decide) (by decide) (by decide) (by decide) (by decide) (by decide) (by decide)]; exact e1
          · rw [kf _ (by decide) (by decide) (by decide) (by decide) (by decide) (by decide) (by decide) (by decide) (by decide), sf _ (by decide) (by decide) (by decide) (by decide) (by decide) (by decide) (by decide) (by decide)]; exact e2
          · rw [kf _ (by decide) (by decide) (by decide) (by decide) (by decide) (by decide) (by decide) (by decide) (by decide), sf _ (by decide) (by decide) (by decide) (by decide) (by decide) (by decide) (by decide) (by decide)]; exact e3
          · rw [kf _ (by decide) (by decide) (by decide) (by decide) (by decide) (by decide) (by decide) (by decide) (by decide), sf _ (by decide) (by decide) (by decide) (by decide) (by decide) (by decide) (by decide) (by decide)]; exact e5
          · rw [kf _ (by decide) (by decide) (by decide) (by decide) (by decide) (by decide) (by decide) (by decide) (by decide), sf _ (by decide) (by decide) (by decide) (by decide) (by decide) (by decide) (by decide) (by decide)]; exact e6
          · rw [kf _ (by decide) (by decide) (by decide) (by decide) (by decide) (by decide) (by decide) (by decide) (by decide), sf _ (by decide) (by decide) (by decide) (by decide) (by decide) (by decide) (by decide) (by decide)]; exact e8
          · rw [kf _ (by decide) (by decide) (by decide) (by decide) (by decide) (by decide) (by decide) (by decide) (by decide), sf _ (by decide) (by decide) (by decide) (by decide) (by decide) (by decide) (by decide) (by decide)]; exact e9
          · rw [kf _ (by decide) (by decide) (by decide) (by decide) (by decide) (by decide) (by decide) (by decide) (by decide), sf _ (by decide) (by decide) (by decide) (by decide) (by decide) (by decide) (by decide) (by decide)]; exact e10
          · rw [kf _ (by decide) (by decide) (by decide) (by decide) (by decide) (by decide) (by decide) (by decide) (by decide), sf _ (by decide) (by decide) (by decide) (by decide) (by decide) (by decide) (by decide) (by decide)]; exact e11
          · rw [kf _ (by decide) (by decide) (by decide) (by decide) (by decide) (by decide) (by decide) (by decide) (by decide), sf _ (by decide) (by decide) (by decide) (by decide) (by decide) (by decide) (by decide) (by decide)]; exact e12
          · rw [kf _ (by decide) (by decide) (by decide) (by decide) (by decide) (by decide) (by decide) (by decide) (by decide), sf _ (by decide) (by decide) (by decide) (by decide) (by decide) (by decide) (by decide) (by decide)]; exact e14
          · rw [sf _ (by decide) (by decide) (by decide) (by decide) (by decide) (by decide) (by decide) (by decide)]; exact e13
          · rw [sf _ (by decide) (by decide) (by decide) (by decide) (by decide) (by decide) (by decide) (by decide)]; exact e7
        · unfold jC
          rw [kSigW_fn (f := 36) (by decide) (by decide) (by decide) (by decide) (by decide) (by decide) (by decide) (by decide) (by decide), kSigW_fn (f := 37) (by decide) (by decide) (by decide) (by decide) (by decide) (by decide) (by decide) (by decide) (by decide), kSigW_fn (f := 35) (by decide) (by decide) (by decide) (by decide) (by decide) (by decide) (by decide) (by decide) (by decide), kSigW_fn (f := 73) (by decide) (by decide) (by decide) (by decide) (by decide) (by decide) (by decide) (by decide) (by decide), kSigW_fn (f := 74) (by decide) (by decide) (by decide) (by decide) (by decide) (by decide) (by decide) (by decide) (by decide), kSigW_fn (f := 75) (by decide) (by decide) (by decide) (by decide) (by decide) (by decide) (by decide) (by decide) (by decide), mSigW_fn (f := 36) (by decide) (by decide) (by decide) (by decide) (by decide) (by decide) (by decide) (by decide), mSigW_fn (f := 37) (by decide) (by decide) (by decide) (by decide) (by decide) (by decide) (by decide) (by decide), mSigW_fn (f := 35) (by decide) (by decide) (by decide) (by decide) (by decide) (by decide) (by decide) (by decide), mSigW_fn (f := 34) (by decide) (by decide) (by decide) (by decide) (by decide) (by decide) (by decide) (by decide)]
          exact JC
        · refine ⟨?_, fun x hx => ⟨?_, ?_⟩⟩
          · rw [kSigW_fn (f := 8) (by decide) (by decide) (by decide) (by decide) (by decide) (by decide) (by decide) (by decide) (by decide), kSigW_fn (f := 10) (by decide) (by decide) (by decide) (by decide) (by decide) (by decide) (by decide) (by decide) (by decide)]
            exact JD.1
          · rw [kSigW_fn (f := 3) (by decide) (by decide) (by decide) (by decide) (by decide) (by decide) (by decide) (by decide) (by decide)]
            exact (JD.2 x hx).1
          · have q : x ≠ th := by omega
            have v : mSigB c th b 4 x = 0 := by
              show (if 4 = 4 ∧ x = th then _ else c 4 x) = 0
              rw [if_neg (fun y => q y.2)]
              exact (JD.2 x hx).2
            unfold kSigW
            split
            · exact v
            · simp only [kReady, sS_app, Nat.reduceEqDiff, false_and, true_and, q, and_false, ↓reduceIte, mComes]
              exact v
      · rw [eq] at w
        exact absurd rfl w
    · have eq : mSignalG s (mNow s) a = (nI 3, 0, s) := by
        unfold mSignalG
        rw [if_neg k0, et, if_neg (fun w => w k1), if_pos k2]
      have eqc : kSignalG c (mNow s) a = (nI 3, 0, c) := by
        unfold kSignalG
        rw [ec, if_neg k0, e8, et, e1, if_neg (fun w => w k1), e9, if_pos k2]
      refine ⟨mSignalG s (mNow s) a, fun hR okR => t_M_signal okR (JA.mwf JE) rfl h0 ha, kDone_mp (kDone_q ?_ ?_ hcl) (fun hc => ?_), fun _ => ?_, by unfold mSignalG; (repeat' split) <;> first | exact i50 | exact i51 | exact i52 | exact i53 | exact i54⟩
      · rw [eq, eqc]
      · rw [eq, eqc]
      · rw [eq] at hc; exact absurd hc n30
      · rw [eq]
  · have eq : mSignalG s (mNow s) a = (1, 0, s) := by
      unfold mSignalG
      rw [if_neg k0, et, if_pos k1]
    have eqc : kSignalG c (mNow s) a = (1, 0, c) := by
      unfold kSignalG
      rw [ec, if_neg k0, e8, et, e1, if_pos k1]
    refine ⟨mSignalG s (mNow s) a, fun hR okR => t_M_signal okR (JA.mwf JE) rfl h0 ha, kDone_mp (kDone_q ?_ ?_ hcl) (fun hc => ?_), fun _ => ?_, by unfold mSignalG; (repeat' split) <;> first | exact i50 | exact i51 | exact i52 | exact i53 | exact i54⟩
    · rw [eq, eqc]
    · rw [eq, eqc]
    · rw [eq] at hc; exact absurd hc n10
    · rw [eq]
-- the list and the living
def kLst (c : mS) (C m : Nat) : Prop := (∀ i, i < m → 1 ≤ vN (c 70 i) ∧ vN (c 70 i) ≤ C) ∧ (∀ i i', i < i' → i' < m → vN (c 70 i) < vN (c 70 i')) ∧ ∀ k, 1 ≤ k → k ≤ C → (¬ c 12 k = 0 ↔ ∃ i, i < m ∧ vN (c 70 i) = k)
theorem jA.lst (J : jA W c n) : kLst c (kC W) n := by
  obtain ⟨⟨b1, b2, b3, b4⟩, a1, a2, a3, a4, ⟨⟨l1, l2, l3, l4, l5, l6⟩, m1, m2⟩, -⟩ := J
  refine ⟨fun i hi => ⟨(l5 i hi).2, by have := (l5 i hi).1.2; omega⟩, m1, fun k k1 k2 => ?_⟩
  rw [m2 k k1 k2]
  constructor
  · rintro ⟨i, i1, i2⟩
    exact ⟨i, i1, by rw [i2, vN_nI (by omega)]⟩
  · rintro ⟨i, i1, i2⟩
    exact ⟨i, i1, by rw [(l5 i i1).1.1, i2]⟩
theorem kLst_step {C m : Nat} (L : kLst c (C + 1) m) : (¬ c 12 (C + 1) = 0 → ∃ m', m = m' + 1 ∧ vN (c 70 m') = C + 1 ∧ kLst c C m') ∧ (c 12 (C + 1) = 0 → kLst c C m) := by
  obtain ⟨h1, h2, h3⟩ := L
  constructor
  · intro hl
    obtain ⟨i, i1, i2⟩ := (h3 (C + 1) (by omega) (Nat.le_refl _)).mp hl
    have hm : m = i + 1 := by
      rcases Nat.lt_or_ge (i + 1) m with w | w
      · have := h2 i (i + 1) (Nat.lt_succ_self _) w
        have := (h1 (i + 1) w).2
        omega
      · omega
    subst hm
    refine ⟨i, rfl, i2, fun u hu => ⟨(h1 u (by omega)).1, ?_⟩, fun u u' a b => h2 u u' a (by omega), fun k k1 k2 => ?_⟩
    · have := h2 u i hu (Nat.lt_succ_self _)
      omega
    · rw [h3 k k1 (by omega)]
      constructor
      · rintro ⟨u, u1, u2⟩
        have : u ≠ i := fun w => by rw [w] at u2; omega
        exact ⟨u, by omega, u2⟩
      · rintro ⟨u, u1, u2⟩
        exact ⟨u, by omega, u2⟩
  · intro hd
    refine ⟨fun u hu => ⟨(h1 u hu).1, ?_⟩, h2, fun k k1 k2 => h3 k k1 (by omega)⟩
    have a1 := (h1 u hu).2
    have : vN (c 70 u) ≠ C + 1 := fun w => (h3 (C + 1) (by omega) (Nat.le_refl _)).mpr ⟨u, hu, w⟩ hd
    omega
theorem kDes_back (top : Nat) : ∀ (m i : Nat), kDes c top (m + 1) i = kDes c top m i + (if mCame c (vN (c 70 (i + m))) top = true then 1 else 0)
  | 0, i => by
    show (if mCame c (vN (c 70 i)) top = true then 1 else 0) + 0 = 0 + _
    rw [Nat.add_zero, Nat.zero_add, Nat.add_zero]
  | m + 1, i => by
    have := kDes_back top m (i + 1)
    show (if mCame c (vN (c 70 i)) top = true then 1 else 0) + kDes c top (m + 1) (i + 1) = (if mCame c (vN (c 70 i)) top = true then 1 else 0) + kDes c top m (i + 1) + _
    rw [this, show i + 1 + m = i + (m + 1) by omega]
    omega
theorem kDes_eq {top : Nat} : ∀ (C m : Nat), kLst c C m → kDes c top m 0 = mDes c top C
  | 0, m, L => by
    have : m = 0 := by
      rcases Nat.eq_zero_or_pos m with w | w
      · exact w
      · have := L.1 0 w; omega
    subst this
    rfl
  | C + 1, m, L => by
    obtain ⟨s1, s2⟩ := kLst_step L
    unfold mDes
    by_cases hl : c 12 (C + 1) = 0
    · rw [if_neg (fun w => w.1 hl)]
      exact kDes_eq C m (s2 hl)
    · obtain ⟨m', rfl, e, L'⟩ := s1 hl
      rw [kDes_back, Nat.zero_add, e, kDes_eq C m' L']
      by_cases q : mCame c (C + 1) top = true
      · rw [if_pos q, if_pos ⟨hl, q⟩]
      · rw [if_neg q, if_neg (fun w => q w.2)]
        rfl
theorem kYg_eq {top : Nat} : ∀ (C m : Nat), kLst c C m → kYg c top m = mYoung c top C
  | 0, m, L => by
    have : m = 0 := by
      rcases Nat.eq_zero_or_pos m with w | w
      · exact w
      · have := L.1 0 w; omega
    subst this
    rfl
  | C + 1, m, L => by
    obtain ⟨s1, s2⟩ := kLst_step L
    unfold mYoung
    by_cases hl : c 12 (C + 1) = 0
    · rw [if_neg (fun w => w.1 hl)]
      exact kYg_eq C m (s2 hl)
    · obtain ⟨m', rfl, e, L'⟩ := s1 hl
      unfold kYg
      rw [e, kYg_eq C m' L']
      by_cases q : mCame c (C + 1) top = true
      · rw [if_pos q, if_pos ⟨hl, q⟩]
      · rw [if_neg q, if_neg (fun w => q w.2)]
theorem mLv_eq : ∀ (C m : Nat), kLst c C m → mLv c C = m
  | 0, m, L => by
    have : m = 0 := by
      rcases Nat.eq_zero_or_pos m with w | w
      · exact w
      · have := L.1 0 w; omega
    subst this
    rfl
  | C + 1, m, L => by
    obtain ⟨s1, s2⟩ := kLst_step L
    unfold mLv
    by_cases hl : c 12 (C + 1) = 0
    · rw [if_pos hl]
      exact mLv_eq C m (s2 hl)
    · obtain ⟨m', rfl, e, L'⟩ := s1 hl
      rw [if_neg hl, mLv_eq C m' L']
end LL
