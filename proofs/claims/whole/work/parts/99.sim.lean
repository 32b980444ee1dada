/-! Alike: current, pass, priority, thread, answer, signal, await, look, count. -/
section LK
variable {z : xzs} {W : kW} {h : xH} {c s : mS} {n K m : Nat}
theorem mNowS_15 {b t : Nat} (hb : b ≠ 0 → s 15 b = 0) : mNowStep s b t ≠ 0 → s 15 (mNowStep s b t) = 0 := by
  unfold mNowStep
  split
  · rename_i q
    exact fun _ => q.1
  · exact hb
theorem mNow_15 (h0 : mNow s ≠ 0) : s 15 (mNow s) = 0 := mNowS_15 (mNowS_15 (mNowS_15 (fun w => absurd rfl w))) h0
theorem jS.at52 (J : jS K W c s n) {t : Nat} (t1 : 1 ≤ t) (t2 : t < 4) (h15 : s 15 t = 0) : c 52 t = 0 := (J.1.2.2.2.2.2.2.1 t t1 t2).2 (by unfold mWst; rw [h15]; decide)
theorem sim_current (J : jS K W c s n) (ok : kOk W h) (hz : z.1 < h.1) (hC : kC W + 1 < 1200) (hK : K + 10 < 2 ^ 30) : kSimZ z W h K c s n m (f_K_current z) (f_M_current z) [] := by
  have Kp := J.p ok hz hC
  refine ⟨(0, nI (mNow s), s), rfl, fun hR okR => t_M_current okR, kDone_mp (kDone_q (q := (0, nI (mNow c), c)) rfl (by rw [J.now]) (t_K_current Kp)) (fun _ W' c' X P => ?_), fun w => absurd rfl w, i50⟩
  obtain ⟨rfl, rfl⟩ := P
  exact ⟨n, jS_mono J (by omega) hK, Nat.le_succ _⟩
theorem sim_pass (J : jS K W c s n) (ok : kOk W h) (hz : z.1 < h.1) (hC : kC W + 1 < 1200) (hK : K + 10 < 2 ^ 30) : kSim z W h K c s n m (f_K_pass z) (f_M_pass z) [] := by
  have Kp := J.p ok hz hC
  have hnow := J.now
  by_cases h0 : mNow s = 0
  · exact kSim_bad J (fun hR okR => t_M_pass_bad okR h0) (fun P => t_K_pass_bad Kp (by rw [hnow]; exact h0) P)
  have hcl := t_K_pass (z := z) Kp (by rw [hnow]; exact h0)
  rw [hnow] at hcl
  have t1 := mNow_pos h0
  have t2 := mNow_lt s
  have h15 := mNow_15 h0
  have h52 := J.at52 t1 t2 h15
  obtain ⟨⟨JA, JT, JE, JB⟩, JC, JD⟩ := J
  have JB' := jB_pass JB t1 t2 (by omega) (by rw [JB.1.1]; exact h15) h52
  refine ⟨mPassG s, fun hR okR => t_M_pass okR h0, kDone_mp (kDone_q (q := (0, nI (mNow (kPassS c (mNow s))), c)) rfl (by rw [mNow_eq JB'.1 JB'.2.2.1]; rfl) hcl) (fun _ W' c' X P => ?_), fun w => absurd rfl w, by unfold mPassG; (repeat' split) <;> first | exact i50 | exact i51 | exact i52 | exact i53 | exact i54⟩
  obtain ⟨rfl, rfl⟩ := P
  exact ⟨n, jS_mono (K := K + 1) ⟨⟨jA_of JA rfl rfl rfl rfl rfl rfl rfl rfl rfl rfl rfl rfl rfl rfl rfl rfl rfl rfl, JT, JE, JB'⟩, JC, JD⟩ (by omega) hK, Nat.le_succ _⟩
theorem sim_priority (J : jS K W c s n) (ok : kOk W h) (hz : z.1 < h.1) (hC : kC W + 1 < 1200) (hK : K + 10 < 2 ^ 30) (p1 p2 : Int32) : kSim z W h K c s n m (f_K_priority z) (f_M_priority z) [.int p1, .int p2] := by
  have Kp := J.p ok hz hC
  by_cases hr : rIn p1 1 (nI 3) ∧ rIn p2 0 (nI 3)
  · obtain ⟨t, t0, t2, rfl⟩ := w_thr hr.1
    have t1 : 1 ≤ t := t0
    have hcl := t_K_priority (z := z) Kp t1 t2 hr.2
    obtain ⟨⟨JA, JT, JE, JB⟩, JC, JD⟩ := J
    refine ⟨mPriG s t p2, fun hR okR => t_M_priority okR t0 t2 hr.2, kDone_mp (kDone_q (q := mPriG c t p2) rfl (by show s 20 t = c 20 t; rw [JB.1.2.2.2.2.2.1]) hcl) (fun _ W' c' X P => ?_), fun w => absurd rfl w, by unfold mPriG; (repeat' split) <;> first | exact i50 | exact i51 | exact i52 | exact i53 | exact i54⟩
    obtain ⟨rfl, rfl⟩ := P
    exact ⟨n, jS_mono (K := K) ⟨⟨jA_of JA rfl rfl rfl rfl rfl rfl rfl rfl rfl rfl rfl rfl rfl rfl rfl rfl rfl rfl, JT, JE, jB_20 JB t p2⟩, JC, JD⟩ (by omega) hK, Nat.le_succ _⟩
  · exact kSim_bad1 (fun hR okR => t_M_priority_bad okR hr) (fun P => t_K_priority_bad Kp hr P)
theorem sim_thread (J : jS K W c s n) (ok : kOk W h) (hz : z.1 < h.1) (hC : kC W + 1 < 1200) (hK : K + 10 < 2 ^ 30) (p1 p2 : Int32) : kSim z W h K c s n m (f_K_thread z) (f_M_thread z) [.int p1, .int p2] := by
  have Kp := J.p ok hz hC
  by_cases hr : rIn p1 1 (nI 3) ∧ rIn p2 0 (nI 5)
  · obtain ⟨t, t0, t2, rfl⟩ := w_thr hr.1
    have t1 : 1 ≤ t := t0
    have hcl := t_K_thread (z := z) Kp t1 t2 hr.2
    have et : mThr s t p2 = mThr c t p2 := by
      obtain ⟨z1, z2, z3, z4, z5, z6, z7⟩ := J.1.2.2.2.1
      unfold mThr
      rw [z1, z2, z3, z4, z5, z6]
    refine ⟨(0, mThr s t p2, s), fun hR okR => t_M_thread okR t0 t2 hr.2, kDone_mp (kDone_q (q := (0, mThr c t p2, c)) rfl et hcl) (fun _ W' c' X P => ?_), fun w => absurd rfl w, i50⟩
    obtain ⟨rfl, rfl⟩ := P
    exact ⟨n, jS_mono J (by omega) hK, Nat.le_succ _⟩
  · exact kSim_bad1 (fun hR okR => t_M_thread_bad okR hr) (fun P => t_K_thread_bad Kp hr P)
theorem sim_answer (J : jS K W c s n) (ok : kOk W h) (hz : z.1 < h.1) (hC : kC W + 1 < 1200) (hK : K + 10 < 2 ^ 30) (w : Int32) : kSim z W h K c s n m (f_K_answer z) (f_M_answer z) [.int w] := by
  have Kp := J.p ok hz hC
  have hnow := J.now
  by_cases h0 : mNow s = 0
  · exact kSim_bad J (fun hR okR => t_M_answer_bad okR h0) (fun P => t_K_answer_bad Kp (by rw [hnow]; exact h0) P)
  have t1 := mNow_pos h0
  have t2 := mNow_lt s
  obtain ⟨⟨JA, JT, JE, JB⟩, JC, JD⟩ := J
  have h29 := (JB.2.2.2.2.2.2.2.2.1 (mNow s) t2).1
  have e29 : c 29 = s 29 := JB.1.2.2.2.2.2.2
  have hcl := t_K_answer (z := z) (w := w) Kp (by rw [hnow]; exact h0) (by rw [hnow, e29]; exact h29)
  rw [hnow] at hcl
  have hiff : mAnsOk c (mNow s) (vN (s 29 (mNow s))) ↔ mAnsOk s (mNow s) (vN (s 29 (mNow s))) := by
    unfold mAnsOk
    rw [JB.1.1]
    by_cases k : vN (s 29 (mNow s)) = 0
    · rw [k]
      exact ⟨fun w => absurd w.1 (by decide), fun w => absurd w.1 (by decide)⟩
    · rw [(JB.2.2.2.2.2.2.1 (mNow s) (vN (s 29 (mNow s))) t1 t2 (by omega) h29.2 h29.1).1]
  have hq : (mAnswerG s (mNow s) w).1 = (mAnswerG c (mNow s) w).1 ∧ (mAnswerG s (mNow s) w).2.1 = (mAnswerG c (mNow s) w).2.1 := by
    unfold mAnswerG
    rw [e29]
    by_cases k : mAnsOk s (mNow s) (vN (s 29 (mNow s)))
    · rw [if_pos k, if_pos (hiff.mpr k)]
      exact ⟨rfl, rfl⟩
    · rw [if_neg k, if_neg (fun v => k (hiff.mp v))]
      exact ⟨rfl, rfl⟩
  refine ⟨mAnswerG s (mNow s) w, fun hR okR => t_M_answer okR rfl h0 h29, kDone_mp (kDone_q hq.1 hq.2 hcl) (fun hc W' c' X P => ?_), fun hq => ?_, by unfold mAnswerG; (repeat' split) <;> first | exact i50 | exact i51 | exact i52 | exact i53 | exact i54⟩
  · obtain ⟨rfl, l1, rfl⟩ := P
    rw [e29] at l1 ⊢
    have e2 : (mAnswerG s (mNow s) w).2.2 = mReady (mComes s (vN (s 29 (mNow s))) w 0 (-1)) (vN (s 29 (mNow s))) := by
      unfold mAnswerG at hc ⊢
      by_cases k : mAnsOk s (mNow s) (vN (s 29 (mNow s)))
      · rw [if_pos k]
      · rw [if_neg k] at hc
        exact absurd hc n40
    rw [e2]
    have JB' := jB_ready (jB_comes JB (vN (s 29 (mNow s))) w 0 (-1)) l1 h29.2 (by omega)
    exact ⟨n, jS_mono (K := K + 1) ⟨⟨jA_of JA rfl rfl rfl rfl rfl rfl rfl rfl rfl rfl rfl rfl rfl rfl rfl rfl rfl rfl, JT, JE, jB_mono JB' (by omega) (by omega)⟩, JC, JD⟩ (by omega) hK, Nat.le_succ _⟩
  · unfold mAnswerG at hq ⊢
    by_cases k : mAnsOk s (mNow s) (vN (s 29 (mNow s)))
    · rw [if_pos k] at hq
      exact absurd rfl hq
    · rw [if_neg k]
theorem sim_await (J : jS K W c s n) (ok : kOk W h) (hz : z.1 < h.1) (hC : kC W + 1 < 1200) (hK : K + 10 < 2 ^ 30) (p1 : Int32) : kSim z W h K c s n m (f_K_await z) (f_M_await z) [.int p1] := by
  have Kp := J.p ok hz hC
  have hnow := J.now
  by_cases hr : mNow s = 0 ∨ ¬ rAd p1
  · exact kSim_bad J (fun hR okR => t_M_await_bad okR hr) (fun P => t_K_await_bad Kp (by rw [hnow]; exact hr) P)
  have h0 : mNow s ≠ 0 := fun w => hr (Or.inl w)
  obtain ⟨a, ha, rfl⟩ := w_addr (x := p1) (Classical.byContradiction fun w => hr (Or.inr w))
  have t1 := mNow_pos h0
  have t2 := mNow_lt s
  have h15 := mNow_15 h0
  have h52 := J.at52 t1 t2 h15
  have J0 := J
  obtain ⟨⟨JA, JT, JE, JB⟩, JC, JD⟩ := J
  have hcl := t_K_await (z := z) Kp (by rw [hnow]; exact h0) ha
  rw [hnow] at hcl
  have je := JE
  obtain ⟨e1, e2, e3, e4, e5, e6, e8, e9, e10, e11, e12, e14, e13, e7⟩ := je
  have ec := JE.cap (mNow s) a
  have hT := JA.1.2.1
  refine ⟨mAwaitG s (mNow s) a, fun hR okR => t_M_await okR (JA.mwf JE) rfl h0 ha, kDone_mp (kDone_q ?_ ?_ hcl) (fun hc W' c' X P => ?_), fun hq => ?_, by unfold mAwaitG; (repeat' split) <;> first | exact i50 | exact i51 | exact i52 | exact i53 | exact i54⟩
  · unfold mAwaitG kAwaitG
    rw [ec, e1, e8, e9, e4]
    repeat' split
    all_goals rfl
  · unfold mAwaitG kAwaitG
    rw [ec, e1, e8, e9, e4]
    repeat' split
    all_goals rfl
  · obtain ⟨rfl, rfl⟩ := P
    unfold mAwaitG at hc ⊢
    unfold kAwaitG
    rw [ec, e1, e8, e9, e4]
    by_cases k0 : mCapa s (mNow s) a = 0
    · rw [if_pos k0] at hc
      exact absurd hc n20
    simp only [k0, ↓reduceIte] at hc ⊢
    by_cases k1 : s 1 (vN (s 8 (vN (mCapa s (mNow s) a)))) = nI 2
    · simp only [k1, not_true_eq_false, ↓reduceIte] at hc ⊢
      by_cases k2 : s 9 (vN (mCapa s (mNow s) a)) &&& 1 = 1
      · simp only [k2, not_true_eq_false, ↓reduceIte] at hc ⊢
        obtain ⟨l1, l2, l3, l4, -⟩ := J0.live t1 t2 ha (by rw [ec]; exact k0)
        rw [ec] at l1 l2 l3 l4
        obtain ⟨⟨th, g1, g2, g3⟩, -⟩ := JA.2.2.2.1 _ l1 l2
        rw [e8] at g1
        have et : vN (s 8 (vN (mCapa s (mNow s) a))) = th := by rw [g1, vN_nI (by omega)]
        rw [et] at k1 ⊢
        by_cases k3 : s 4 th = 0
        · simp only [k3, ↓reduceIte]
          rw [g1]
          have JB' := jB_waits JB (st := nI 5) t1 t2 (by omega) hT g2 h52 (Or.inl ⟨rfl, by rw [e1]; exact k1⟩) (fun w => absurd w (by decide)) (fun w => absurd w (by decide)) (fun w => absurd w (by decide)) (fun w => absurd w (by decide))
          exact ⟨n, jS_mono (K := K + 2) ⟨⟨jA_of JA rfl rfl rfl rfl rfl rfl rfl rfl rfl rfl rfl rfl rfl rfl rfl rfl rfl rfl, JT, JE, JB'⟩, JC, JD⟩ (by omega) hK, Nat.le_succ _⟩
        · simp only [k3, ↓reduceIte]
          have JE' : jE W' (sS (mComes c (mNow s) (s 4 th) 0 (-1)) 4 th 0) (sS (mComes s (mNow s) (s 4 th) 0 (-1)) 4 th 0) := by
            refine ⟨e1, e2, e3, ?_, e5, e6, e8, e9, e10, e11, e12, e14, e13, e7⟩
            funext x
            simp only [sS_app, mComes, Nat.reduceEqDiff, false_and, true_and, ↓reduceIte, e4]
          exact ⟨n, jS_mono (K := K) ⟨⟨jA_of JA rfl rfl rfl rfl rfl rfl rfl rfl rfl rfl rfl rfl rfl rfl rfl rfl rfl rfl, JT, JE', jB_comes JB _ _ _ _⟩, JC, JD.1, fun x hx => ⟨(JD.2 x hx).1, by
            rw [sS_app]
            by_cases q : 4 = 4 ∧ x = th
            · rw [if_pos q]
            · rw [if_neg q]; exact (JD.2 x hx).2⟩⟩ (by omega) hK, Nat.le_succ _⟩
      · simp only [k2, not_false_eq_true, ↓reduceIte] at hc
        exact absurd hc n30
    · simp only [k1, not_false_eq_true, ↓reduceIte] at hc
      exact absurd hc n10
  · unfold mAwaitG at hq ⊢
    split
    · rfl
    rename_i k0
    rw [if_neg k0] at hq
    split
    · rfl
    rename_i k1
    rw [if_neg k1] at hq
    split
    · rfl
    rename_i k2
    rw [if_neg k2] at hq
    split at hq <;> exact absurd rfl hq
end LK
