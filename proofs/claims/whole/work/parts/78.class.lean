/-! The class's actions: signal, await. -/
section KO
variable {z : xzs} {W : kW} {h : xH} {c : mS} {n : Nat}
theorem t_K_signal_bad (K : kP z W h c n) {p1 : Int32} (hr : mNow c = 0 ∨ ¬ rAd p1) (P : kW → mS → Prop) : kDone z W h c (f_K_signal z [.ref (kg W 0 0), .int p1] (kPut W h c)) (mRef c) P := by
  have ok := K.1
  by_cases h0 : mNow c = 0
  · refine kD_thr 4 (by decide) (by decide) (if_pos h0) (E_K_signal z _ _ _ _ ?_)
    unfold D_K_signal_0
    rw [kisK ok, Option.bind_some, t_K_actor0 ok h0, xclR_thr]
    rfl
  · refine kD_thr 1 (by decide) (by decide) (if_neg h0) (E_K_signal z _ _ _ _ ?_)
    unfold D_K_signal_0
    rw [kisK ok, Option.bind_some, t_K_actor ok h0, xclR_some, t_K_isAddress, xclI_some, rAd_no (fun r => hr.elim h0 (fun w => w r)), t_K_needNumbers0 ok, xclV_thr]
    rfl
theorem t_K_await_bad (K : kP z W h c n) {p1 : Int32} (hr : mNow c = 0 ∨ ¬ rAd p1) (P : kW → mS → Prop) : kDone z W h c (f_K_await z [.ref (kg W 0 0), .int p1] (kPut W h c)) (mRef c) P := by
  have ok := K.1
  by_cases h0 : mNow c = 0
  · refine kD_thr 4 (by decide) (by decide) (if_pos h0) (E_K_await z _ _ _ _ ?_)
    unfold D_K_await_0
    rw [kisK ok, Option.bind_some, t_K_actor0 ok h0, xclR_thr]
    rfl
  · refine kD_thr 1 (by decide) (by decide) (if_neg h0) (E_K_await z _ _ _ _ ?_)
    unfold D_K_await_0
    rw [kisK ok, Option.bind_some, t_K_actor ok h0, xclR_some, t_K_isAddress, xclI_some, rAd_no (fun r => hr.elim h0 (fun w => w r)), t_K_needNumbers0 ok, xclV_thr]
    rfl
theorem t_K_delete_bad (K : kP z W h c n) {p1 : Int32} (hr : mNow c = 0 ∨ ¬ rAd p1) (P : kW → mS → Prop) : kDone z W h c (f_K_delete z [.ref (kg W 0 0), .int p1] (kPut W h c)) (mRef c) P := by
  have ok := K.1
  by_cases h0 : mNow c = 0
  · refine kD_thr 4 (by decide) (by decide) (if_pos h0) (E_K_delete z _ _ _ _ ?_)
    unfold D_K_delete_0
    rw [kisK ok, Option.bind_some, t_K_actor0 ok h0, xclR_thr]
    rfl
  · refine kD_thr 1 (by decide) (by decide) (if_neg h0) (E_K_delete z _ _ _ _ ?_)
    unfold D_K_delete_0
    rw [kisK ok, Option.bind_some, t_K_actor ok h0, xclR_some, t_K_isAddress, xclI_some, rAd_no (fun r => hr.elim h0 (fun w => w r)), t_K_needNumbers0 ok, xclV_thr]
    rfl
theorem t_K_revoke_bad (K : kP z W h c n) {p1 : Int32} (hr : mNow c = 0 ∨ ¬ rAd p1) (P : kW → mS → Prop) : kDone z W h c (f_K_revoke z [.ref (kg W 0 0), .int p1] (kPut W h c)) (mRef c) P := by
  have ok := K.1
  by_cases h0 : mNow c = 0
  · refine kD_thr 4 (by decide) (by decide) (if_pos h0) (E_K_revoke z _ _ _ _ ?_)
    unfold D_K_revoke_0
    rw [kisK ok, Option.bind_some, t_K_actor0 ok h0, xclR_thr]
    rfl
  · refine kD_thr 1 (by decide) (by decide) (if_neg h0) (E_K_revoke z _ _ _ _ ?_)
    unfold D_K_revoke_0
    rw [kisK ok, Option.bind_some, t_K_actor ok h0, xclR_some, t_K_isAddress, xclI_some, rAd_no (fun r => hr.elim h0 (fun w => w r)), t_K_needNumbers0 ok, xclV_thr]
    rfl
-- signal
def kSigW (c : mS) (o : Nat) : mS := if kFirst c o = 0 then c else kReady (sS (mComes c (kFirst c o) (c 4 o) 0 (-1)) 4 o 0) (kFirst c o)
def kSigS (c : mS) (o : Nat) (b : Int32) : mS := kSigW (mSigB c o (if b = 0 then 1 else b)) o
def kSignalG (c : mS) (t a : Nat) : mR := if mCapa c t a = 0 then (nI 2, 0, c) else if ¬ c 1 (vN (c 8 (vN (mCapa c t a)))) = nI 2 then (1, 0, c) else if ¬ c 9 (vN (mCapa c t a)) &&& nI 2 = nI 2 then (nI 3, 0, c) else (0, nI (kHow (kSigS c (vN (c 8 (vN (mCapa c t a)))) (c 10 (vN (mCapa c t a)))) (vN (c 8 (vN (mCapa c t a))))), c)
theorem kWf_of {c' : mS} (F : kWf W c) (h14 : c' 14 = c 14) (h8 : c' 8 = c 8) (h11 : c' 11 = c 11) (h1 : c' 1 = c 1) : kWf W c' := by
  refine ⟨F.1, fun i hi => ?_, fun j q1 q2 => ?_, fun j q1 q2 => ?_, fun t q1 q2 => ?_⟩
  · rw [h14]; exact F.2.1 i hi
  · rw [h8]; exact F.2.2.1 j q1 q2
  · rw [h11]; exact F.2.2.2.1 j q1 q2
  · rw [h1]; exact F.2.2.2.2 t q1 q2
theorem t_sig97 (ok : kOk W h) (F : kWf W c) (A : kWA W c) {o : Nat} (ho : o < kT W) : B_K_signal_97 z (kg W 0 0) (some (kg W 5 o)) (kPut W h c) = some (.inl (some (.int (nI (kHow c o)))), kPut W h c) := by
  refine E_K_signal_97 z _ _ _ _ ?_
  unfold D_K_signal_97
  rw [kisK ok, Option.bind_some]
  show xclI (f_K_howManyAt z [.ref (kg W 0 0), .ref (kg W 5 o)] (kPut W h c)) _ = _
  rw [t_K_howManyAt ok F A ho, xclI_some]
theorem kSigW_A (A : kWA W c) (o : Nat) : kWA W (kSigW c o) := by
  intro t q1 q2
  unfold kSigW
  split
  · exact A t q1 q2
  · by_cases e : t = kFirst c o
    · refine Or.inl ?_
      rw [← e]
      simp only [kReady, sS_app, Nat.reduceEqDiff, false_and, ↓reduceIte, and_self]
    · have := A t q1 q2
      simp only [kReady, mComes, sS_app, Nat.reduceEqDiff, false_and, ↓reduceIte, e, and_false]
      exact this
theorem kSigW_F (F : kWf W c) (o : Nat) : kWf W (kSigW c o) := by
  unfold kSigW
  split
  · exact F
  · exact F
theorem t_sig67 (ok : kOk W h) (F : kWf W c) (A : kWA W c) {o : Nat} (ho : o < kT W) (b : Int32) : B_K_signal_67 z (kg W 0 0) (some (kg W 5 o)) b (c 4 o) (some (kg W 5 o)) (kPut W h c) = some (.inl (some (.int (nI (kHow (kSigW (mSigB c o b) o) o)))), kPut W h (kSigW (mSigB c o b) o)) := by
  refine E_K_signal_67 z _ _ _ _ _ _ _ ?_
  unfold D_K_signal_67
  have F' : kWf W (mSigB c o b) := F
  have A' : kWA W (mSigB c o b) := A
  have e0 : xwr (kPut W h c) (kg W 5 o) 5 6 (.int (c 4 o ||| b)) = some (kPut W h (mSigB c o b)) := kw_bits ok ho _
  rw [Option.bind_some, e0, Option.bind_some, kisK ok, Option.bind_some]
  show xclR (f_K_firstAt z [.ref (kg W 0 0), .ref (kg W 5 o)] (kPut W h (mSigB c o b))) _ = _
  rw [t_K_firstAt ok F' A' ho, xclR_some]
  have q := t_sig97 (z := z) ok (kSigW_F F' o) (kSigW_A A' o) ho
  have hl := kFirst_lt (mSigB c o b) o
  by_cases k0 : kFirst (mSigB c o b) o = 0
  · have e1 : kSigW (mSigB c o b) o = mSigB c o b := if_pos k0
    rw [e1] at q ⊢
    rw [kB, if_pos k0, xcase_n, q]
  · have e1 : kSigW (mSigB c o b) o = kReady (sS (mComes (mSigB c o b) (kFirst (mSigB c o b) o) (mSigB c o b 4 o) 0 (-1)) 4 o 0) (kFirst (mSigB c o b) o) := if_neg k0
    rw [e1] at q ⊢
    rw [kB, if_neg k0, xcase_s]
    show xclV (f_K_takeBits z [.ref (kg W 2 (kFirst (mSigB c o b) o)), .ref (kg W 5 o)] (kPut W h (mSigB c o b))) _ = _
    rw [t_K_takeBits ok (by omega) hl ho, xclV_some, kisK ok, Option.bind_some, t_K_makeReady ok (by omega) hl, xclV_some, q]
theorem t_K_signal (K : kP z W h c n) {a : Nat} (h0 : mNow c ≠ 0) (ha : a < 72) : kDone z W h c (f_K_signal z [.ref (kg W 0 0), .int (nI a)] (kPut W h c)) (kSignalG c (mNow c) a) (fun W' c' => W' = W ∧ c' = kSigS c (vN (c 8 (vN (mCapa c (mNow c) a)))) (c 10 (vN (mCapa c (mNow c) a)))) := by
  have K0 := K
  obtain ⟨ok, F, A, R, hl, hz, hn, hC⟩ := K
  have t1 := mNow_pos h0
  have t2 := mNow_lt c
  unfold kSignalG
  by_cases c0 : mCapa c (mNow c) a = 0
  · rw [if_pos c0]
    refine kD_thr 2 (by decide) (by decide) rfl (E_K_signal z _ _ _ _ ?_)
    unfold D_K_signal_0
    rw [kisK ok, Option.bind_some, t_K_actor ok h0, xclR_some, t_K_isAddress, xclI_some, rAd_if (rAd_nI ha), t_K_needNumbers (by decide), xclV_some]
    show xclR (f_K_capabilityAt z [.ref (kg W 2 (mNow c)), .int (nI a)] (kPut W h c)) _ = _
    rw [t_K_capabilityAt0 ok F t1 t2 ha c0, xclR_thr]
    rfl
  · rw [if_neg c0]
    obtain ⟨j1, j2⟩ := kCapN F t1 t2 ha c0
    have hth := F.2.2.1 _ j1 j2
    have go : ∀ (x : Int32) r, (if c 1 (vN (c 8 (vN (mCapa c (mNow c) a)))) = nI 2 then x = 1 else x = 0) → B_K_signal_38 z (kg W 0 0) (some (kg W 1 (vN (mCapa c (mNow c) a)))) (some (kg W 5 (vN (c 8 (vN (mCapa c (mNow c) a)))))) x (kPut W h c) = some r → f_K_signal z [.ref (kg W 0 0), .int (nI a)] (kPut W h c) = some r := by
      intro x r hx q
      refine E_K_signal z _ _ _ _ ?_
      unfold D_K_signal_0
      rw [kisK ok, Option.bind_some, t_K_actor ok h0, xclR_some, t_K_isAddress, xclI_some, rAd_if (rAd_nI ha), t_K_needNumbers (by decide), xclV_some]
      show xclR (f_K_capabilityAt z [.ref (kg W 2 (mNow c)), .int (nI a)] (kPut W h c)) _ = _
      rw [t_K_capabilityAt ok F t1 t2 ha c0, xclR_some, Option.bind_some, kr_thing ok j1 j2, Option.bind_some, Option.bind_some, kr_kind ok hth.2, Option.bind_some, ic_2, ic_0, ic_1]
      by_cases k : c 1 (vN (c 8 (vN (mCapa c (mNow c) a)))) = nI 2
      · rw [if_neg (fun w => w k)]
        rw [if_pos k] at hx
        rw [hx] at q
        exact q
      · rw [if_pos k]
        rw [if_neg k] at hx
        rw [hx] at q
        exact q
    by_cases k1 : c 1 (vN (c 8 (vN (mCapa c (mNow c) a)))) = nI 2
    · rw [if_neg (fun w => w k1)]
      by_cases k2 : c 9 (vN (mCapa c (mNow c) a)) &&& nI 2 = nI 2
      · rw [if_neg (fun w => w k2)]
        refine kD_same (c' := kSigS c (vN (c 8 (vN (mCapa c (mNow c) a)))) (c 10 (vN (mCapa c (mNow c) a)))) K0 rfl (go 1 _ (by rw [if_pos k1]) (E_K_signal_38 z _ _ _ _ _ _ ?_)) ⟨rfl, rfl⟩
        unfold D_K_signal_38
        rw [t_K_needKind (by decide), xclV_some]
        show xclV (f_K_needRights z [.ref (kg W 1 (vN (mCapa c (mNow c) a))), .int (Int32.ofInt 2)] (kPut W h c)) _ = _
        rw [ic_2, t_K_needRights ok j1 j2 k2, xclV_some, Option.bind_some, kr_bits ok hth.2, Option.bind_some, Option.bind_some, kr_badge ok j1 j2, Option.bind_some, Option.bind_some, ic_1]
        unfold kSigS
        by_cases k3 : c 10 (vN (mCapa c (mNow c) a)) = 0
        · rw [if_neg (fun w => w k3), if_pos k3]
          exact t_sig67 ok F A hth.2 _
        · rw [if_pos k3, if_neg k3]
          exact t_sig67 ok F A hth.2 _
      · rw [if_pos k2]
        refine kD_thr 3 (by decide) (by decide) rfl (go 1 _ (by rw [if_pos k1]) (E_K_signal_38 z _ _ _ _ _ _ ?_))
        unfold D_K_signal_38
        rw [t_K_needKind (by decide), xclV_some]
        show xclV (f_K_needRights z [.ref (kg W 1 (vN (mCapa c (mNow c) a))), .int (Int32.ofInt 2)] (kPut W h c)) _ = _
        rw [ic_2, t_K_needRights0 ok j1 j2 k2, xclV_thr]
        rfl
    · rw [if_pos k1]
      refine kD_thr 1 (by decide) (by decide) rfl (go 0 _ (by rw [if_neg k1]) (E_K_signal_38 z _ _ _ _ _ _ ?_))
      unfold D_K_signal_38
      rw [t_K_needKind0 ok, xclV_thr]
      rfl
-- await
def kAwaitG (c : mS) (t a : Nat) : mR := if mCapa c t a = 0 then (nI 2, 0, c) else if ¬ c 1 (vN (c 8 (vN (mCapa c t a)))) = nI 2 then (1, 0, c) else if ¬ c 9 (vN (mCapa c t a)) &&& 1 = 1 then (nI 3, 0, c)
  else if c 4 (vN (c 8 (vN (mCapa c t a)))) = 0 then (0, 1, kWaits c t (nI 5) (vN (c 8 (vN (mCapa c t a))))) else (0, 0, sS (mComes c t (c 4 (vN (c 8 (vN (mCapa c t a))))) 0 (-1)) 4 (vN (c 8 (vN (mCapa c t a)))) 0)
theorem t_K_await (K : kP z W h c n) {a : Nat} (h0 : mNow c ≠ 0) (ha : a < 72) : kDone z W h c (f_K_await z [.ref (kg W 0 0), .int (nI a)] (kPut W h c)) (kAwaitG c (mNow c) a) (fun W' c' => W' = W ∧ c' = (kAwaitG c (mNow c) a).2.2) := by
  have K0 := K
  obtain ⟨ok, F, A, R, hl, hz, hn, hC⟩ := K
  have t1 := mNow_pos h0
  have t2 := mNow_lt c
  unfold kAwaitG
  by_cases c0 : mCapa c (mNow c) a = 0
  · rw [if_pos c0]
    refine kD_thr 2 (by decide) (by decide) rfl (E_K_await z _ _ _ _ ?_)
    unfold D_K_await_0
    rw [kisK ok, Option.bind_some, t_K_actor ok h0, xclR_some, t_K_isAddress, xclI_some, rAd_if (rAd_nI ha), t_K_needNumbers (by decide), xclV_some]
    show xclR (f_K_capabilityAt z [.ref (kg W 2 (mNow c)), .int (nI a)] (kPut W h c)) _ = _
    rw [t_K_capabilityAt0 ok F t1 t2 ha c0, xclR_thr]
    rfl
  · rw [if_neg c0]
    obtain ⟨j1, j2⟩ := kCapN F t1 t2 ha c0
    have hth := F.2.2.1 _ j1 j2
    have hT := F.1.2.1
    have ht2 := hth.2
    have go : ∀ (x : Int32) r, (if c 1 (vN (c 8 (vN (mCapa c (mNow c) a)))) = nI 2 then x = 1 else x = 0) → B_K_await_38 z (kg W 0 0) (some (kg W 2 (mNow c))) (some (kg W 1 (vN (mCapa c (mNow c) a)))) (some (kg W 5 (vN (c 8 (vN (mCapa c (mNow c) a)))))) x (kPut W h c) = some r → f_K_await z [.ref (kg W 0 0), .int (nI a)] (kPut W h c) = some r := by
      intro x r hx q
      refine E_K_await z _ _ _ _ ?_
      unfold D_K_await_0
      rw [kisK ok, Option.bind_some, t_K_actor ok h0, xclR_some, t_K_isAddress, xclI_some, rAd_if (rAd_nI ha), t_K_needNumbers (by decide), xclV_some]
      show xclR (f_K_capabilityAt z [.ref (kg W 2 (mNow c)), .int (nI a)] (kPut W h c)) _ = _
      rw [t_K_capabilityAt ok F t1 t2 ha c0, xclR_some, Option.bind_some, kr_thing ok j1 j2, Option.bind_some, Option.bind_some, kr_kind ok hth.2, Option.bind_some, ic_2, ic_0, ic_1]
      by_cases k : c 1 (vN (c 8 (vN (mCapa c (mNow c) a)))) = nI 2
      · rw [if_neg (fun w => w k)]
        rw [if_pos k] at hx
        rw [hx] at q
        exact q
      · rw [if_pos k]
        rw [if_neg k] at hx
        rw [hx] at q
        exact q
    by_cases k1 : c 1 (vN (c 8 (vN (mCapa c (mNow c) a)))) = nI 2
    · rw [if_neg (fun w => w k1)]
      by_cases k2 : c 9 (vN (mCapa c (mNow c) a)) &&& 1 = 1
      · rw [if_neg (fun w => w k2)]
        have go2 : ∀ r, (if ¬ c 4 (vN (c 8 (vN (mCapa c (mNow c) a)))) = 0 then xclV (f_K_takeBits z [.ref (kg W 2 (mNow c)), .ref (kg W 5 (vN (c 8 (vN (mCapa c (mNow c) a)))))] (kPut W h c)) fun h16 => some (.inl (some (.int 0)), h16) else xclV (f_K_beginWaiting z [.ref (kg W 0 0), .ref (kg W 2 (mNow c)), .ref (kg W 5 (vN (c 8 (vN (mCapa c (mNow c) a))))), .int (nI 5)] (kPut W h c)) fun h17 => some (.inl (some (.int 1)), h17)) = some r → f_K_await z [.ref (kg W 0 0), .int (nI a)] (kPut W h c) = some r := by
          intro r q
          refine go 1 _ (by rw [if_pos k1]) (E_K_await_38 z _ _ _ _ _ _ _ ?_)
          unfold D_K_await_38
          rw [t_K_needKind (by decide), xclV_some]
          show xclV (f_K_needRights z [.ref (kg W 1 (vN (mCapa c (mNow c) a))), .int (Int32.ofInt 1)] (kPut W h c)) _ = _
          rw [ic_1, t_K_needRights ok j1 j2 k2, xclV_some, Option.bind_some, kr_bits ok hth.2, Option.bind_some, kisK ok, Option.bind_some, ic_0, ic_5]
          exact q
        by_cases k3 : c 4 (vN (c 8 (vN (mCapa c (mNow c) a)))) = 0
        · rw [if_pos k3]
          refine kD_same K0 rfl (go2 _ ?_) ⟨rfl, rfl⟩
          rw [if_neg (fun w => w k3), t_K_beginWaiting ok t1 t2 (by omega), xclV_some]
        · rw [if_neg k3]
          refine kD_same K0 rfl (go2 _ ?_) ⟨rfl, rfl⟩
          rw [if_pos k3, t_K_takeBits ok t1 t2 hth.2, xclV_some]
      · rw [if_pos k2]
        refine kD_thr 3 (by decide) (by decide) rfl (go 1 _ (by rw [if_pos k1]) (E_K_await_38 z _ _ _ _ _ _ _ ?_))
        unfold D_K_await_38
        rw [t_K_needKind (by decide), xclV_some]
        show xclV (f_K_needRights z [.ref (kg W 1 (vN (mCapa c (mNow c) a))), .int (Int32.ofInt 1)] (kPut W h c)) _ = _
        rw [ic_1, t_K_needRights0 ok j1 j2 k2, xclV_thr]
        rfl
    · rw [if_pos k1]
      refine kD_thr 1 (by decide) (by decide) rfl (go 0 _ (by rw [if_neg k1]) (E_K_await_38 z _ _ _ _ _ _ _ ?_))
      unfold D_K_await_38
      rw [t_K_needKind0 ok, xclV_thr]
      rfl
end KO
