/-! Alike: look, count, retype. -/
section LM
variable {z : xzs} {W : kW} {h : xH} {c s : mS} {n K m : Nat}
theorem sim_look (J : jS K W c s n) (ok : kOk W h) (hz : z.1 < h.1) (hC : kC W + 1 < 1200) (hK : K + 10 < 2 ^ 30) (p1 p2 p3 : Int32) : kSim z W h K c s n m (f_K_look z) (f_M_look z) [.int p1, .int p2, .int p3] := by
  have Kp := J.p ok hz hC
  by_cases hr : rIn p1 1 (nI 3) ∧ rAd p2 ∧ rIn p3 0 (nI 4)
  · obtain ⟨t, t0, t2, rfl⟩ := w_thr hr.1
    obtain ⟨a, ha, rfl⟩ := w_addr hr.2.1
    have t1 : 1 ≤ t := t0
    have hcl := t_K_look (z := z) Kp t1 t2 ha hr.2.2
    have J0 := J
    obtain ⟨⟨JA, JT, JE, JB⟩, JC, JD⟩ := J
    have je := JE
    obtain ⟨e1, e2, e3, e4, e5, e6, e8, e9, e10, e11, e12, e14, e13, e7⟩ := je
    have ec := JE.cap t a
    have ed : ∀ top, kDes c top n 0 = mDes s top (kC W) := fun top => by rw [kDes_eq _ _ JA.lst, mDes_congr e11 e12]
    have hq : (mLookG s (kC W) t a p3).1 = (kLookG c n t a p3).1 ∧ (mLookG s (kC W) t a p3).2.1 = (kLookG c n t a p3).2.1 := by
      unfold mLookG kLookG
      rw [ec, e8]
      by_cases k : mCapa s t a = 0
      · rw [if_pos k, if_pos k]
        exact ⟨rfl, rfl⟩
      · rw [if_neg k, if_neg k]
        refine ⟨rfl, ?_⟩
        show mLookV s (kC W) _ _ p3 = kLookV c n _ _ p3
        unfold mLookV kLookV
        rw [e1, e9, e10, ed, e4, e3]
        rfl
    refine ⟨mLookG s (kC W) t a p3, fun hR okR => t_M_look okR (JA.mwf JE) (JA.mpar JE) e13 (by omega) t0 t2 ha hr.2.2, kDone_mp (kDone_q hq.1 hq.2 hcl) (fun _ W' c' X P => ?_), fun _ => ?_, by unfold mLookG; (repeat' split) <;> first | exact i50 | exact i51 | exact i52 | exact i53 | exact i54⟩
    · obtain ⟨rfl, rfl⟩ := P
      have : (mLookG s (kC W') t a p3).2.2 = s := by
        unfold mLookG
        split <;> rfl
      rw [this]
      exact ⟨n, jS_mono J0 (by omega) hK, Nat.le_succ _⟩
    · unfold mLookG
      split <;> rfl
  · exact kSim_bad1 (fun hR okR => t_M_look_bad okR hr) (fun P => t_K_look_bad Kp hr P)
-- blocks
theorem mTkn_iff (d : Nat) : ∀ k : Nat, mTkn s d k 0 = 0 ↔ ∀ g, g < k → ¬ s 34 g = nI d
  | 0 => ⟨fun _ g hg => by omega, fun _ => rfl⟩
  | k + 1 => by
    unfold mTkn
    by_cases e : s 34 k = nI d
    · rw [if_pos e]
      exact ⟨fun w => absurd w (by decide), fun w => absurd e (w k (Nat.lt_succ_self _))⟩
    · rw [if_neg e, mTkn_iff d k]
      constructor
      · intro w g hg
        by_cases q : g = k
        · rw [q]; exact e
        · exact w g (by omega)
      · intro w g hg
        exact w g (by omega)
theorem jC_free (J : jC c s) {b : Nat} (hb : b < 6) : mTkn s (b + 1) 16 0 = 0 ↔ c 73 b = 0 := by
  obtain ⟨j1, j2, j3, j4, j5⟩ := J
  rw [mTkn_iff]
  constructor
  · intro w
    refine Classical.byContradiction fun q => ?_
    obtain ⟨d, f, d1, f1, -, -, e⟩ := j4 b hb q
    exact w _ (by omega) e
  · intro w g hg e
    rcases j5 g hg with q | ⟨b', b1, b2, b3, -⟩
    · rw [q] at e
      exact nI_ne0 (by omega) (by omega) e.symm
    · rw [b2] at e
      have := (nI_eq (by omega) (by omega)).mp e
      have : b' = b := by omega
      rw [this] at b3
      exact b3 w
theorem mFr_eq (J : jC c s) : ∀ k : Nat, k ≤ 6 → mFr s k = ((List.range' 0 k).filter (fun i => c 73 i = 0)).length
  | 0, _ => rfl
  | k + 1, hk => by
    have ih := mFr_eq J k (by omega)
    unfold mFr
    rw [List.range'_concat, List.filter_append, List.length_append, ← ih]
    have e := jC_free J (show k < 6 by omega)
    by_cases q : c 73 k = 0
    · rw [if_pos (e.mpr q)]
      simp only [Nat.mul_one, Nat.one_mul, Nat.zero_add, List.filter_cons, q, decide_true, ↓reduceIte, List.filter_nil, List.length_cons, List.length_nil]
    · rw [if_neg (fun w => q (e.mp w))]
      simp only [Nat.mul_one, Nat.one_mul, Nat.zero_add, List.filter_cons, q, decide_false, ↓reduceIte, List.filter_nil, List.length_nil, Bool.false_eq_true, Nat.add_zero]
theorem sim_count (J : jS K W c s n) (ok : kOk W h) (hz : z.1 < h.1) (hC : kC W + 1 < 1200) (hK : K + 10 < 2 ^ 30) (w : Int32) : kSimZ z W h K c s n m (f_K_count z) (f_M_count z) [.int w] := by
  have Kp := J.p ok hz hC
  have hcl := t_K_count (z := z) Kp w
  have J0 := J
  obtain ⟨⟨JA, JT, JE, JB⟩, JC, JD⟩ := J
  have je := JE
  obtain ⟨e1, e2, e3, e4, e5, e6, e8, e9, e10, e11, e12, e14, e13, e7⟩ := je
  have b1 := JA.1.1
  have b2 := JA.1.2.1
  have hv : mCntV (sS s 0 0 0) (kC W) (kT W) w = kCntV c w := by
    have lv : mLv (sS s 0 0 0) (kC W) = n := by
      have : ∀ k, mLv (sS s 0 0 0) k = mLv c k := by
        intro k
        induction k with
        | zero => rfl
        | succ k ih =>
          unfold mLv
          rw [ih]
          show (if s 12 (k + 1) = 0 then _ else _) = _
          rw [e12]
      rw [this, mLv_eq _ _ JA.lst]
    have th : mTh (sS s 0 0 0) (kT W - 10) = mTh c (kT W - 10) := mTh_congr _ (fun k _ => by show s 6 _ = _; rw [e6])
    have fr : mFr (sS s 0 0 0) 6 = kFree c := by
      have : ∀ k, mFr (sS s 0 0 0) k = mFr s k := by
        intro k
        induction k with
        | zero => rfl
        | succ k ih =>
          unfold mFr
          rw [ih, mTkn_congr (s := s) (σ := sS s 0 0 0) rfl]
      rw [this, mFr_eq JC 6 (by decide)]
      rfl
    obtain ⟨m1, m2, m3⟩ := JA.2.2.2.2.2.2.2.2.1
    unfold mCntV mCntF kCntV
    show (if w = 1 then s 7 0 - nI 10 else if w = nI 3 then s 36 0 else if w = nI 4 then s 37 0 else if w < 0 ∨ nI 5 < w then -1 else _) = _
    by_cases k0 : w = 0
    · subst k0
      rw [if_neg (by decide), if_neg (by decide), if_neg (by decide), if_neg (by decide), if_pos rfl, if_pos rfl, lv, JA.ls.1]
    rw [if_neg k0, if_neg k0]
    by_cases k1 : w = 1
    · rw [if_pos k1, if_pos k1, e7, m3, pk_sub b1]
    rw [if_neg k1, if_neg k1]
    by_cases k2 : w = nI 2
    · subst k2
      rw [if_neg (by decide), if_neg (by decide), if_neg (by decide), if_pos rfl, show (if nI 2 = (2 : Int32) then c 68 0 else _) = c 68 0 from if_pos rfl, th, m2]
    rw [if_neg k2, show (if w = (2 : Int32) then c 68 0 else _) = _ from if_neg k2]
    by_cases k3 : w = nI 3
    · rw [if_pos k3, show (if w = (3 : Int32) then c 36 0 else _) = _ from if_pos k3, JC.1]
    rw [if_neg k3, show (if w = (3 : Int32) then c 36 0 else _) = _ from if_neg k3]
    by_cases k4 : w = nI 4
    · rw [if_pos k4, show (if w = (4 : Int32) then c 37 0 else _) = _ from if_pos k4, JC.2.1]
    rw [if_neg k4, show (if w = (4 : Int32) then c 37 0 else _) = _ from if_neg k4]
    by_cases k5 : w = nI 5
    · subst k5
      rw [if_neg (by decide), if_pos rfl, show (if nI 5 = (5 : Int32) then nI (kFree c) else _) = _ from if_pos rfl, fr]
    rw [show (if w = (5 : Int32) then nI (kFree c) else _) = _ from if_neg k5]
    refine if_pos (Classical.byContradiction fun q => ?_)
    obtain ⟨x, x1, rfl⟩ := nI_of (x := w) (fun y => q (Or.inl y))
    have : x ≤ 5 := by
      rcases Nat.lt_or_ge 5 x with y | y
      · exact absurd (Or.inr (nI_lt y x1)) q
      · exact y
    have : x = 0 ∨ x = 1 ∨ x = 2 ∨ x = 3 ∨ x = 4 ∨ x = 5 := by omega
    rcases this with y | y | y | y | y | y
    · exact k0 (by rw [y]; rfl)
    · exact k1 (by rw [y]; rfl)
    · exact k2 (by rw [y])
    · exact k3 (by rw [y])
    · exact k4 (by rw [y])
    · exact k5 (by rw [y])
  refine ⟨(0, mCntV (sS s 0 0 0) (kC W) (kT W) w, s), rfl, fun hR okR => t_M_count okR e13 (by omega) e7 b2 w, kDone_mp (kDone_q (q := (0, kCntV c w, c)) rfl hv hcl) (fun _ W' c' X P => ?_), fun w => absurd rfl w, i50⟩
  obtain ⟨rfl, rfl⟩ := P
  exact ⟨n, jS_mono J0 (by omega) hK, Nat.le_succ _⟩
end LM
