/-! The class's actions: priority, current, thread, pass, answer, signal, await. -/
section KN
variable {z : xzs} {W : kW} {h : xH} {c : mS} {n : Nat}
-- current
theorem t_K_currentE (ok : kOk W h) : f_K_current z [.ref (kg W 0 0)] (kPut W h c) = some (.inl (some (.int (nI (mNow c)))), kPut W h c) := by
  refine E_K_current z _ _ _ ?_
  unfold D_K_current_0
  rw [kisK ok, Option.bind_some, t_K_firstInLine ok, xclR_some]
  by_cases h0 : mNow c = 0
  · rw [kB, if_pos h0, xcase_n, ic_0]
    refine E_K_current_17 z _ _ _ ?_
    unfold D_K_current_17
    rw [h0, nI_0]
  · rw [kB, if_neg h0, xcase_s, kr_lnumber ok (mNow_pos h0) (mNow_lt c), Option.bind_some]
    exact E_K_current_17 z _ _ _ rfl
theorem t_K_current (K : kP z W h c n) : kDone z W h c (f_K_current z [.ref (kg W 0 0)] (kPut W h c)) (0, nI (mNow c), c) (fun W' c' => W' = W ∧ c' = c) := kD_same K rfl (t_K_currentE K.1) ⟨rfl, rfl⟩
-- pass
def kPassS (c : mS) (t : Nat) : mS := sS (sS c 31 0 (c 31 0 + 1)) 21 t (c 31 0 + 1)
theorem t_K_pass_bad (K : kP z W h c n) (h0 : mNow c = 0) (P : kW → mS → Prop) : kDone z W h c (f_K_pass z [.ref (kg W 0 0)] (kPut W h c)) (mRef c) P := by
  have ok := K.1
  refine kD_thr 4 (by decide) (by decide) (if_pos h0) (E_K_pass z _ _ _ ?_)
  unfold D_K_pass_0
  rw [kisK ok, Option.bind_some, t_K_actor0 ok h0, xclR_thr]
  rfl
theorem t_K_pass (K : kP z W h c n) (h0 : mNow c ≠ 0) : kDone z W h c (f_K_pass z [.ref (kg W 0 0)] (kPut W h c)) (0, nI (mNow (kPassS c (mNow c))), c) (fun W' c' => W' = W ∧ c' = kPassS c (mNow c)) := by
  have ok := K.1
  refine kD_same (c' := kPassS c (mNow c)) K rfl (E_K_pass z _ _ _ ?_) ⟨rfl, rfl⟩
  unfold D_K_pass_0
  rw [kisK ok, Option.bind_some, t_K_actor ok h0, xclR_some, kisK ok, Option.bind_some, t_K_nextStamp ok, xclI_some, Option.bind_some, kw_place ok (mNow_pos h0) (mNow_lt c), Option.bind_some, kisK ok, Option.bind_some, t_K_currentE ok, xclI_some]
  rfl
-- priority, thread
theorem t_K_priority_bad (K : kP z W h c n) {p1 p2 : Int32} (hr : ¬ (rIn p1 1 (nI 3) ∧ rIn p2 0 (nI 3))) (P : kW → mS → Prop) : kDone z W h c (f_K_priority z [.ref (kg W 0 0), .int p1, .int p2] (kPut W h c)) (1, 0, c) P := by
  have ok := K.1
  refine kD_thr 1 (by decide) (by decide) rfl (E_K_priority z _ _ _ _ _ ?_)
  have e20 : B_K_priority_20 z (kg W 0 0) p1 p2 (kPut W h c) = kThr z W h c 8 := by
    refine E_K_priority_20 z _ _ _ _ _ ?_
    unfold D_K_priority_20
    refine E_K_priority_21 z _ _ _ _ _ _ ?_
    unfold D_K_priority_21
    rw [ic_0, t_K_needNumbers0 ok, xclV_thr]
    rfl
  unfold D_K_priority_0
  rw [t_K_isClient, xclI_some]
  by_cases r1 : rIn p1 1 (nI 3)
  · rw [rIn_if r1, if_neg (by decide), ic_0, ic_3, t_K_isWithin, xclI_some, rIn_no (fun r2 => hr ⟨r1, r2⟩), if_pos rfl]
    exact e20
  · rw [rIn_no r1, if_pos rfl]
    exact e20
theorem rIn_t {t : Nat} (h1 : 1 ≤ t) (h2 : t < 4) : rIn (nI t) 1 (nI 3) := by
  rintro (w | w)
  · exact nI_nlt (a := t) (b := 1) h1 (by omega) w
  · exact nI_nlt (by omega) (by decide) w
theorem kt_sub {t : Nat} (h1 : 1 ≤ t) : nI t - Int32.ofInt 1 = nI (t - 1) := by
  rw [ic_1n, pk_sub h1]
theorem t_K_priority (K : kP z W h c n) {t : Nat} {p2 : Int32} (h1 : 1 ≤ t) (h2 : t < 4) (hp : rIn p2 0 (nI 3)) : kDone z W h c (f_K_priority z [.ref (kg W 0 0), .int (nI t), .int p2] (kPut W h c)) (mPriG c t p2) (fun W' c' => W' = W ∧ c' = sS c 20 t p2) := by
  have ok := K.1
  refine kD_same (c' := sS c 20 t p2) K rfl (E_K_priority z _ _ _ _ _ ?_) ⟨rfl, rfl⟩
  unfold D_K_priority_0
  rw [t_K_isClient, xclI_some, rIn_if (rIn_t h1 h2), if_neg (by decide), ic_0, ic_3, t_K_isWithin, xclI_some, rIn_if hp, if_neg (by decide)]
  refine E_K_priority_21 z _ _ _ _ _ _ ?_
  unfold D_K_priority_21
  have e : t - 1 + 1 = t := by omega
  rw [ic_1, t_K_needNumbers (by decide), xclV_some, kr_clients ok, Option.bind_some, Option.bind_some]
  rw [show nI t - 1 = nI (t - 1) from kt_sub h1, ka_clients ok (show t - 1 < 3 by omega), e, Option.bind_some, Option.bind_some, kr_priority ok h1 h2, Option.bind_some, kw_priority ok h1 h2, Option.bind_some]
  rfl
theorem t_K_thread_bad (K : kP z W h c n) {p1 p2 : Int32} (hr : ¬ (rIn p1 1 (nI 3) ∧ rIn p2 0 (nI 5))) (P : kW → mS → Prop) : kDone z W h c (f_K_thread z [.ref (kg W 0 0), .int p1, .int p2] (kPut W h c)) (1, 0, c) P := by
  have ok := K.1
  refine kD_thr 1 (by decide) (by decide) rfl (E_K_thread z _ _ _ _ _ ?_)
  have e20 : B_K_thread_20 z (kg W 0 0) p1 p2 (kPut W h c) = kThr z W h c 8 := by
    refine E_K_thread_20 z _ _ _ _ _ ?_
    unfold D_K_thread_20
    refine E_K_thread_21 z _ _ _ _ _ _ ?_
    unfold D_K_thread_21
    rw [ic_0, t_K_needNumbers0 ok, xclV_thr]
    rfl
  unfold D_K_thread_0
  rw [t_K_isClient, xclI_some]
  by_cases r1 : rIn p1 1 (nI 3)
  · rw [rIn_if r1, if_neg (by decide), ic_0, ic_5, t_K_isWithin, xclI_some, rIn_no (fun r2 => hr ⟨r1, r2⟩), if_pos rfl]
    exact e20
  · rw [rIn_no r1, if_pos rfl]
    exact e20
theorem t_K_thread (K : kP z W h c n) {t : Nat} {p2 : Int32} (h1 : 1 ≤ t) (h2 : t < 4) (hp : rIn p2 0 (nI 5)) : kDone z W h c (f_K_thread z [.ref (kg W 0 0), .int (nI t), .int p2] (kPut W h c)) (0, mThr c t p2, c) (fun W' c' => W' = W ∧ c' = c) := by
  have ok := K.1
  refine kD_same (c' := c) K rfl (E_K_thread z _ _ _ _ _ ?_) ⟨rfl, rfl⟩
  unfold D_K_thread_0
  rw [t_K_isClient, xclI_some, rIn_if (rIn_t h1 h2), if_neg (by decide), ic_0, ic_5, t_K_isWithin, xclI_some, rIn_if hp, if_neg (by decide)]
  refine E_K_thread_21 z _ _ _ _ _ _ ?_
  unfold D_K_thread_21
  have e : t - 1 + 1 = t := by omega
  rw [ic_1, t_K_needNumbers (by decide), xclV_some, kr_clients ok, Option.bind_some, Option.bind_some]
  rw [show nI t - 1 = nI (t - 1) from kt_sub h1, ka_clients ok (show t - 1 < 3 by omega), e, Option.bind_some]
  simp only [Option.bind_some, kr_state ok h1 h2, kr_outcome ok h1 h2, kr_word ok h1 h2, kr_lbadge ok h1 h2, kr_address ok h1 h2, kr_priority ok h1 h2]
  show _ = (some (.inl (some (.int (mThr c t p2))), kPut W h c) : Option xR)
  unfold mThr
  by_cases e0 : p2 = 0
  · rw [if_pos e0, if_pos e0]
  rw [if_neg e0, if_neg e0]
  by_cases e1 : p2 = 1
  · rw [if_pos e1, if_pos e1]
  rw [if_neg e1, if_neg e1]
  by_cases e2 : p2 = 2
  · rw [if_pos e2, if_pos e2]
  rw [if_neg e2, if_neg e2]
  by_cases e3 : p2 = 3
  · rw [if_pos e3, if_pos e3]
  rw [if_neg e3, if_neg e3]
  by_cases e4 : p2 = 4
  · rw [if_pos e4, if_pos e4]
  rw [if_neg e4, if_neg e4]
-- answer
theorem t_K_answer_bad (K : kP z W h c n) {p1 : Int32} (h0 : mNow c = 0) (P : kW → mS → Prop) : kDone z W h c (f_K_answer z [.ref (kg W 0 0), .int p1] (kPut W h c)) (mRef c) P := by
  have ok := K.1
  refine kD_thr 4 (by decide) (by decide) (if_pos h0) (E_K_answer z _ _ _ _ ?_)
  unfold D_K_answer_0
  rw [kisK ok, Option.bind_some, t_K_actor0 ok h0, xclR_thr]
  rfl
theorem t_K_answer (K : kP z W h c n) {w : Int32} (h0 : mNow c ≠ 0) (h29 : isN (c 29 (mNow c)) 4) : kDone z W h c (f_K_answer z [.ref (kg W 0 0), .int w] (kPut W h c)) (mAnswerG c (mNow c) w) (fun W' c' => W' = W ∧ 1 ≤ vN (c 29 (mNow c)) ∧ c' = kReady (mComes c (vN (c 29 (mNow c))) w 0 (-1)) (vN (c 29 (mNow c)))) := by
  have ok := K.1
  have t1 := mNow_pos h0
  have t2 := mNow_lt c
  obtain ⟨a1, a2⟩ := h29
  have e33 : B_K_answer_33 z (kPut W h c) = kThr z W h c 11 := by
    refine E_K_answer_33 z _ _ ?_
    exact k_thr ok 11
  unfold mAnswerG
  have go : ∀ r, (xcase (kRL W (c 29 (mNow c))) (B_K_answer_33 z (kPut W h c)) fun a5 => (rdI (kPut W h c) a5 2 2).bind fun x6 => if ¬ x6 = (Int32.ofInt 3) then B_K_answer_33 z (kPut W h c) else (rdI (kPut W h c) a5 2 16).bind fun x7 => (rdI (kPut W h c) (kg W 2 (mNow c)) 2 18).bind fun x8 => if x7 = x8 then (xisO (kPut W h c) a5 2).bind fun _ => xclV (f_L_hear z [.ref a5, .int w, .int (Int32.ofInt 0), .int (Int32.ofInt (-1))] (kPut W h c)) fun h9 => (xisO h9 (kg W 0 0) 0).bind fun _ => xclV (f_K_makeReady z [.ref (kg W 0 0), .ref a5] h9) fun h10 => (rdI h10 a5 2 0).bind fun x11 => some (.inl (some (.int x11)), h10) else B_K_answer_33 z (kPut W h c)) = some r → f_K_answer z [.ref (kg W 0 0), .int w] (kPut W h c) = some r := by
    intro r q
    refine E_K_answer z _ _ _ _ ?_
    unfold D_K_answer_0
    rw [kisK ok, Option.bind_some, t_K_actor ok h0, xclR_some, Option.bind_some, kr_asker ok t1 t2, Option.bind_some]
    exact q
  by_cases z0 : vN (c 29 (mNow c)) = 0
  · rw [if_neg (fun w => by have := w.1; omega)]
    refine kD_thr 4 (by decide) (by decide) rfl (go _ ?_)
    rw [a1, z0, nI_0, kRL, if_pos rfl, xcase_n, e33]
    rfl
  · have l1 : 1 ≤ vN (c 29 (mNow c)) := by omega
    have ek : kRL W (c 29 (mNow c)) = some (kg W 2 (vN (c 29 (mNow c)))) := by rw [a1, kRL_n (by omega) (by omega), vN_nI (by omega)]
    rw [ek] at go
    by_cases z1 : c 15 (vN (c 29 (mNow c))) = nI 3
    · by_cases z2 : c 28 (vN (c 29 (mNow c))) = c 30 (mNow c)
      · rw [if_pos ⟨by omega, z1, z2⟩]
        refine kD_same (c' := kReady (mComes c (vN (c 29 (mNow c))) w 0 (-1)) (vN (c 29 (mNow c)))) K rfl (go _ ?_) ⟨rfl, l1, rfl⟩
        rw [xcase_s, kr_state ok l1 a2, Option.bind_some, ic_3, if_neg (fun w => w z1), kr_calls ok l1 a2, Option.bind_some, kr_askersCall ok t1 t2, Option.bind_some, if_pos z2, kisL ok l1 a2, Option.bind_some, ic_0, ic_m1, t_L_hear ok l1 a2, xclV_some, kisK ok, Option.bind_some, t_K_makeReady ok l1 a2, xclV_some, kr_lnumber ok l1 a2, Option.bind_some]
      · rw [if_neg (fun w => z2 w.2.2)]
        refine kD_thr 4 (by decide) (by decide) rfl (go _ ?_)
        rw [xcase_s, kr_state ok l1 a2, Option.bind_some, ic_3, if_neg (fun w => w z1), kr_calls ok l1 a2, Option.bind_some, kr_askersCall ok t1 t2, Option.bind_some, if_neg z2, e33]
        rfl
    · rw [if_neg (fun w => z1 w.2.1)]
      refine kD_thr 4 (by decide) (by decide) rfl (go _ ?_)
      rw [xcase_s, kr_state ok l1 a2, Option.bind_some, ic_3, if_pos z1, e33]
      rfl
end KN
