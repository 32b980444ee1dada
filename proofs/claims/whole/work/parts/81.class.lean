/-! The class's actions: receive; the names. -/
def kSaid (c : mS) (t : Nat) (T i : Int32) : mS := sS (sS c 56 t T) 27 t i
def kRecG (c : mS) (t j : Nat) (T i : Int32) : mR := if ¬ c 1 (vN (c 8 j)) = 1 then (1, 0, c) else if ¬ c 9 j &&& 1 = 1 then (nI 3, 0, c) else if vN (c 8 j) < 2 then (nI 4, 0, c) else if kSend (kSaid c t T i) (vN (c 8 j)) = 0 then (0, 1, c) else (0, 0, c)
def kTake (W : kW) (c : mS) (n t f : Nat) : mS := if c 15 f = nI 2 then kAsks (kDelS W c n f t) f t else kReady (sS (kDelS W c n f t) 16 f 0) f
def kRecP (W : kW) (c1 : mS) (n t o : Nat) (W' : kW) (c' : mS) : Prop := (kSend c1 o = 0 ∧ W' = W ∧ c' = kWaits c1 t (nI 4) o) ∨ (kSend c1 o ≠ 0 ∧ c' = kTake W c1 n t (kSend c1 o) ∧ kDelP W c1 n (kSend c1 o) t W')
/-- what is sent is a capability, or none -/
def kGA (W : kW) (c : mS) : Prop := ∀ u, 1 ≤ u → u < 4 → isN (c 26 u) (kC W + 1)
section KR
variable {z : xzs} {W : kW} {h : xH} {c : mS} {n : Nat}
theorem kSend_pos {o : Nat} (h0 : kSend c o ≠ 0) : 1 ≤ kSend c o ∧ kSend c o < 4 ∧ ¬ c 15 (kSend c o) = nI 4 := by
  have hl := kFirst_lt c o
  by_cases q : kFirst c o ≠ 0 ∧ ¬ c 15 (kFirst c o) = nI 4
  · have e : kSend c o = kFirst c o := if_pos q
    rw [e]
    exact ⟨Nat.pos_of_ne_zero q.1, hl, q.2⟩
  · exact absurd (if_neg q) h0
theorem kDelS_15 {u v j : Nat} : kDelS W c n u v 15 j = c 15 j := by
  unfold kDelS
  split
  · simp only [mComes, kHoS, kDerS, kPutS, kLadd, cNew, sS_app, Nat.reduceEqDiff, false_and, ↓reduceIte]
  · simp only [mComes, sS_app, Nat.reduceEqDiff, false_and, ↓reduceIte]
theorem t_rec53 (K : kP z W h c n) (G : kGA W c) {t j : Nat} {T i : Int32} (t1 : 1 ≤ t) (t2 : t < 4) (j1 : 1 ≤ j) (j2 : j ≤ kC W) (hi : kIn W (kSaid c t T i) t) {o : Option xR} (ho : ∀ r, B_K_receive_53 z (kg W 0 0) i (some (kg W 2 t)) (some (kg W 1 j)) (kRT W T) (kPut W h c) = some r → o = some r) : kDone z W h c o (kRecG c t j T i) (kRecP W (kSaid c t T i) n t (vN (c 8 j))) := by
  have K0 := K
  obtain ⟨ok, F, A, R, hl, hz, hn, hC⟩ := K
  have hth := F.2.2.1 _ j1 j2
  have ht2 := hth.2
  have hT := F.1.2.1
  unfold kRecG
  have go1 : ∀ (x : Int32) r, (if c 1 (vN (c 8 j)) = 1 then x = 1 else x = 0) → B_K_receive_72 z (kg W 0 0) i (some (kg W 2 t)) (some (kg W 1 j)) (kRT W T) x (kPut W h c) = some r → o = some r := by
    intro x r hx q
    refine ho r (E_K_receive_53 z _ _ _ _ _ _ _ ?_)
    unfold D_K_receive_53
    rw [Option.bind_some, kr_thing ok j1 j2, Option.bind_some, Option.bind_some, kr_kind ok hth.2, Option.bind_some, ic_1, ic_0]
    by_cases k : c 1 (vN (c 8 j)) = 1
    · rw [if_neg (fun w => w k)]
      rw [if_pos k] at hx
      rw [hx] at q
      exact q
    · rw [if_pos k]
      rw [if_neg k] at hx
      rw [hx] at q
      exact q
  by_cases k1 : c 1 (vN (c 8 j)) = 1
  · rw [if_neg (fun w => w k1)]
    by_cases k2 : c 9 j &&& 1 = 1
    · rw [if_neg (fun w => w k2)]
      have go3 : ∀ (x : Int32) r, (if vN (c 8 j) < 2 then x = 0 else x = 1) → B_K_receive_97 z (kg W 0 0) i (some (kg W 2 t)) (some (kg W 1 j)) (kRT W T) x (kPut W h c) = some r → o = some r := by
        intro x r hx q
        refine go1 1 r (by rw [if_pos k1]) (E_K_receive_72 z _ _ _ _ _ _ _ _ ?_)
        unfold D_K_receive_72
        rw [t_K_needKind (by decide), xclV_some]
        show xclV (f_K_needRights z [.ref (kg W 1 j), .int (Int32.ofInt 1)] (kPut W h c)) _ = _
        rw [ic_1, t_K_needRights ok j1 j2 k2, xclV_some, Option.bind_some, kr_thing ok j1 j2, Option.bind_some, Option.bind_some, kr_server ok hth.2, Option.bind_some, ic_0]
        by_cases k : vN (c 8 j) < 2
        · rw [if_pos (fun w => kSrv_0.mp w k)]
          rw [if_pos k] at hx
          rw [hx] at q
          exact q
        · rw [if_neg (fun w => w (kSrv_0.mpr k))]
          rw [if_neg k] at hx
          rw [hx] at q
          exact q
      by_cases k3 : vN (c 8 j) < 2
      · rw [if_pos k3]
        refine kD_thr 4 (by decide) (by decide) rfl (go3 0 _ (by rw [if_pos k3]) (E_K_receive_97 z _ _ _ _ _ _ _ _ ?_))
        unfold D_K_receive_97
        rw [t_K_needState0 ok, xclV_thr]
        rfl
      · rw [if_neg k3]
        have K1 : kP z W h (kSaid c t T i) n := K0
        have G1 : kGA W (kSaid c t T i) := G
        have e177 : ∀ H, B_K_receive_177 z H = some (.inl (some (.int 0)), H) := fun H => by
          refine E_K_receive_177 z _ _ ?_
          unfold D_K_receive_177
          rw [ic_0]
        have go4 : ∀ r, (xcase (kB W (kSend (kSaid c t T i) (vN (c 8 j)))) (xclV (f_K_beginWaiting z [.ref (kg W 0 0), .ref (kg W 2 t), .ref (kg W 5 (vN (c 8 j))), .int (nI 4)] (kPut W h (kSaid c t T i))) fun h32 => some (.inl (some (.int 1)), h32)) fun a30 => xclV (f_K_deliver z [.ref (kg W 0 0), .ref a30, .ref (kg W 2 t)] (kPut W h (kSaid c t T i))) fun h33 => (rdI h33 a30 2 2).bind fun x34 => if ¬ x34 = nI 2 then (xwr h33 a30 2 3 (.int 0)).bind fun h35 => (xisO h35 (kg W 0 0) 0).bind fun _ => xclV (f_K_makeReady z [.ref (kg W 0 0), .ref a30] h35) fun h36 => B_K_receive_177 z h36 else xclV (f_K_beginAsking z [.ref a30, .ref (kg W 2 t)] h33) fun h37 => B_K_receive_177 z h37) = some r → o = some r := by
          intro r q
          refine go3 1 r (by rw [if_neg k3]) (E_K_receive_97 z _ _ _ _ _ _ _ _ ?_)
          unfold D_K_receive_97
          rw [t_K_needState (by decide), xclV_some, Option.bind_some, kw_intoTable ok t1 t2, Option.bind_some, kw_into ok t1 t2, Option.bind_some, Option.bind_some, kr_thing ok j1 j2, Option.bind_some, kisK ok, Option.bind_some]
          show xclR (f_K_firstSending z [.ref (kg W 0 0), .ref (kg W 5 (vN (c 8 j)))] (kPut W h (kSaid c t T i))) _ = _
          rw [t_K_firstSending ok K1.2.1 K1.2.2.1 hth.2, xclR_some, kr_thing ok j1 j2, Option.bind_some, kisK ok, Option.bind_some, ic_1, ic_0, ic_4, ic_2]
          exact q
        by_cases k4 : kSend (kSaid c t T i) (vN (c 8 j)) = 0
        · rw [if_pos k4]
          refine kD_same (c' := kWaits (kSaid c t T i) t (nI 4) (vN (c 8 j))) K0 rfl (go4 _ ?_) (Or.inl ⟨k4, rfl, rfl⟩)
          rw [kB, if_pos k4, xcase_n, t_K_beginWaiting ok t1 t2 (by omega), xclV_some]
        · rw [if_neg k4]
          obtain ⟨v1, v2, v3⟩ := kSend_pos k4
          obtain ⟨W', h', e, p1, p2, p3⟩ := t_K_deliver (z := z) K1 v1 v2 t1 t2 (G1 _ v1 v2) hi
          refine kD_ans (W' := W') (h' := h') (c' := kTake W (kSaid c t T i) n t (kSend (kSaid c t T i) (vN (c 8 j)))) rfl (go4 _ ?_) (kFr.mono p1 (by decide) (by decide)) p2 (Or.inr ⟨k4, rfl, p3⟩)
          have g0 := p2.1 0 0 (by omega) (kDom0 (by decide))
          have g2 := p2.1 2 _ (by omega) (kDom2 v1 v2)
          have g3 := p2.1 2 _ (by omega) (kDom2 t1 t2)
          rw [kB, if_neg k4, xcase_s, e, xclV_some, ← g0, ← g2, ← g3, kr_state p1.1 v1 v2, Option.bind_some, kDelS_15]
          unfold kTake
          by_cases k5 : kSaid c t T i 15 (kSend (kSaid c t T i) (vN (c 8 j))) = nI 2
          · rw [if_neg (fun w => w k5), if_pos k5, t_K_beginAsking p1.1 v1 v2 t1 t2, xclV_some, e177]
          · rw [if_pos k5, if_neg k5, kw_outcome p1.1 v1 v2, Option.bind_some, kisK p1.1, Option.bind_some, t_K_makeReady p1.1 v1 v2, xclV_some, e177]
    · rw [if_pos k2]
      refine kD_thr 3 (by decide) (by decide) rfl (go1 1 _ (by rw [if_pos k1]) (E_K_receive_72 z _ _ _ _ _ _ _ _ ?_))
      unfold D_K_receive_72
      rw [t_K_needKind (by decide), xclV_some]
      show xclV (f_K_needRights z [.ref (kg W 1 j), .int (Int32.ofInt 1)] (kPut W h c)) _ = _
      rw [ic_1, t_K_needRights0 ok j1 j2 k2, xclV_thr]
      rfl
  · rw [if_pos k1]
    refine kD_thr 1 (by decide) (by decide) rfl (go1 0 _ (by rw [if_neg k1]) (E_K_receive_72 z _ _ _ _ _ _ _ _ ?_))
    unfold D_K_receive_72
    rw [t_K_needKind0 ok, xclV_thr]
    rfl
def kRec0 (c : mS) (t a : Nat) : mR := if mCapa c t a = 0 then (nI 2, 0, c) else kRecG c t (vN (mCapa c t a)) 0 (-1)
def kRec1 (c : mS) (t a b : Nat) : mR := if mCapa c t a = 0 then (nI 2, 0, c) else match kTab c t b with
  | none => (nI 2, 0, c)
  | some o => kRecG c t (vN (mCapa c t a)) (nI (o + 1)) (nI b)
theorem t_K_receive_bad (K : kP z W h c n) {p1 p3 : Int32} (hr : mNow c = 0 ∨ ¬ (rAd p1 ∧ rIn p3 (-1) (nI 71))) (P : kW → mS → Prop) : kDone z W h c (f_K_receive z [.ref (kg W 0 0), .int p1, .int p3] (kPut W h c)) (mRef c) P := by
  have ok := K.1
  by_cases h0 : mNow c = 0
  · refine kD_thr 4 (by decide) (by decide) (if_pos h0) (E_K_receive z _ _ _ _ _ ?_)
    unfold D_K_receive_0
    rw [kisK ok, Option.bind_some, t_K_actor0 ok h0, xclR_thr]
    rfl
  · refine kD_thr 1 (by decide) (by decide) (if_neg h0) (E_K_receive z _ _ _ _ _ ?_)
    have e28 : B_K_receive_28 z (kg W 0 0) p1 p3 (some (kg W 2 (mNow c))) (kPut W h c) = kThr z W h c 8 := by
      refine E_K_receive_28 z _ _ _ _ _ _ ?_
      unfold D_K_receive_28
      refine E_K_receive_29 z _ _ _ _ _ _ _ ?_
      unfold D_K_receive_29
      rw [ic_0, t_K_needNumbers0 ok, xclV_thr]
      rfl
    unfold D_K_receive_0
    rw [kisK ok, Option.bind_some, t_K_actor ok h0, xclR_some, t_K_isAddress, xclI_some]
    by_cases r1 : rAd p1
    · have r3 : ¬ rIn p3 (-1) (nI 71) := fun r => hr.elim h0 (fun w => w ⟨r1, r⟩)
      have n1 : ¬ p3 = -1 := fun e => r3 (by rw [e]; unfold rIn; decide)
      have r2 : ¬ rAd p3 := fun r => r3 (by
        rintro (w | w)
        · exact r (Or.inl (Int32.lt_trans w (by decide)))
        · exact r (Or.inr w))
      rw [rAd_if r1, if_neg (by decide), ic_m1, if_neg n1, t_K_isAddress, xclI_some, rAd_no r2, if_pos rfl]
      exact e28
    · rw [rAd_no r1, if_pos rfl]
      exact e28
theorem t_K_receive0 (K : kP z W h c n) (G : kGA W c) {a : Nat} (h0 : mNow c ≠ 0) (ha : a < 72) : kDone z W h c (f_K_receive z [.ref (kg W 0 0), .int (nI a), .int (-1)] (kPut W h c)) (kRec0 c (mNow c) a) (kRecP W (kSaid c (mNow c) 0 (-1)) n (mNow c) (vN (c 8 (vN (mCapa c (mNow c) a))))) := by
  have K0 := K
  obtain ⟨ok, F, A, R, hl, hz, hn, hC⟩ := K
  have t1 := mNow_pos h0
  have t2 := mNow_lt c
  have go : ∀ r, B_K_receive_29 z (kg W 0 0) (nI a) (-1) (some (kg W 2 (mNow c))) 1 (kPut W h c) = some r → f_K_receive z [.ref (kg W 0 0), .int (nI a), .int (-1)] (kPut W h c) = some r := by
    intro r q
    refine E_K_receive z _ _ _ _ _ ?_
    unfold D_K_receive_0
    rw [kisK ok, Option.bind_some, t_K_actor ok h0, xclR_some, t_K_isAddress, xclI_some, rAd_if (rAd_nI ha), if_neg (by decide), ic_m1, if_pos rfl]
    refine E_K_receive_24 z _ _ _ _ _ _ ?_
    unfold D_K_receive_24
    rw [ic_1]
    exact q
  unfold kRec0
  by_cases c0 : mCapa c (mNow c) a = 0
  · rw [if_pos c0]
    refine kD_thr 2 (by decide) (by decide) rfl (go _ (E_K_receive_29 z _ _ _ _ _ _ _ ?_))
    unfold D_K_receive_29
    rw [t_K_needNumbers (by decide), xclV_some]
    show xclR (f_K_capabilityAt z [.ref (kg W 2 (mNow c)), .int (nI a)] (kPut W h c)) _ = _
    rw [t_K_capabilityAt0 ok F t1 t2 ha c0, xclR_thr]
    rfl
  · rw [if_neg c0]
    obtain ⟨j1, j2⟩ := kCapN F t1 t2 ha c0
    have hi : kIn W (kSaid c (mNow c) 0 (-1)) (mNow c) := Or.inl (by simp only [kSaid, sS_app, Nat.reduceEqDiff, false_and, and_self, ↓reduceIte])
    refine t_rec53 (z := z) K0 G t1 t2 j1 j2 hi (fun r e => go r (E_K_receive_29 z _ _ _ _ _ _ _ ?_))
    unfold D_K_receive_29
    rw [t_K_needNumbers (by decide), xclV_some]
    show xclR (f_K_capabilityAt z [.ref (kg W 2 (mNow c)), .int (nI a)] (kPut W h c)) _ = _
    rw [t_K_capabilityAt ok F t1 t2 ha c0, xclR_some, ic_m1, if_neg (fun w => w rfl)]
    rw [kRT_0] at e
    exact e
theorem t_K_receive1 (K : kP z W h c n) (G : kGA W c) {a b : Nat} (h0 : mNow c ≠ 0) (ha : a < 72) (hb : b < 72) : kDone z W h c (f_K_receive z [.ref (kg W 0 0), .int (nI a), .int (nI b)] (kPut W h c)) (kRec1 c (mNow c) a b) (fun W' c' => ∃ o', kTab c (mNow c) b = some o' ∧ o' < kT W ∧ c 1 o' = nI 3 ∧ kRecP W (kSaid c (mNow c) (nI (o' + 1)) (nI b)) n (mNow c) (vN (c 8 (vN (mCapa c (mNow c) a)))) W' c') := by
  have K0 := K
  obtain ⟨ok, F, A, R, hl, hz, hn, hC⟩ := K
  have t1 := mNow_pos h0
  have t2 := mNow_lt c
  have nb := nI_m1 (b := b) (by omega)
  have hT := F.1.2.1
  have go : ∀ r, B_K_receive_29 z (kg W 0 0) (nI a) (nI b) (some (kg W 2 (mNow c))) 1 (kPut W h c) = some r → f_K_receive z [.ref (kg W 0 0), .int (nI a), .int (nI b)] (kPut W h c) = some r := by
    intro r q
    refine E_K_receive z _ _ _ _ _ ?_
    unfold D_K_receive_0
    rw [kisK ok, Option.bind_some, t_K_actor ok h0, xclR_some, t_K_isAddress, xclI_some, rAd_if (rAd_nI ha), if_neg (by decide), ic_m1, if_neg nb, t_K_isAddress, xclI_some, rAd_if (rAd_nI hb), if_neg (by decide)]
    refine E_K_receive_24 z _ _ _ _ _ _ ?_
    unfold D_K_receive_24
    rw [ic_1]
    exact q
  unfold kRec1
  by_cases c0 : mCapa c (mNow c) a = 0
  · rw [if_pos c0]
    refine kD_thr 2 (by decide) (by decide) rfl (go _ (E_K_receive_29 z _ _ _ _ _ _ _ ?_))
    unfold D_K_receive_29
    rw [t_K_needNumbers (by decide), xclV_some]
    show xclR (f_K_capabilityAt z [.ref (kg W 2 (mNow c)), .int (nI a)] (kPut W h c)) _ = _
    rw [t_K_capabilityAt0 ok F t1 t2 ha c0, xclR_thr]
    rfl
  · rw [if_neg c0]
    have q1 := t_K_capabilityAt (z := z) ok F t1 t2 ha c0
    cases e1 : kTab c (mNow c) b with
    | none =>
      refine kD_thr 2 (by decide) (by decide) rfl (go _ (E_K_receive_29 z _ _ _ _ _ _ _ ?_))
      unfold D_K_receive_29
      rw [t_K_needNumbers (by decide), xclV_some]
      show xclR (f_K_capabilityAt z [.ref (kg W 2 (mNow c)), .int (nI a)] (kPut W h c)) _ = _
      rw [q1, xclR_some, ic_m1, if_pos nb]
      show xclR (f_K_tableAt z [.ref (kg W 2 (mNow c)), .int (nI b)] (kPut W h c)) _ = _
      rw [t_K_tableAt0 ok F t1 t2 hb e1, xclR_thr]
      rfl
    | some o' =>
      obtain ⟨o1, o2⟩ := kTab_ok F t1 t2 hb e1
      obtain ⟨j1, j2⟩ := kCapN F t1 t2 ha c0
      have hi : kIn W (kSaid c (mNow c) (nI (o' + 1)) (nI b)) (mNow c) := Or.inr ⟨o', b, o1, o2, by simp only [kSaid, sS_app, Nat.reduceEqDiff, false_and, and_self, ↓reduceIte], hb, by simp only [kSaid, sS_app, Nat.reduceEqDiff, false_and, and_self, ↓reduceIte]⟩
      have q := t_rec53 (z := z) K0 G t1 t2 j1 j2 hi (o := f_K_receive z [.ref (kg W 0 0), .int (nI a), .int (nI b)] (kPut W h c)) (fun r e => go r (E_K_receive_29 z _ _ _ _ _ _ _ (by
        unfold D_K_receive_29
        rw [t_K_needNumbers (by decide), xclV_some]
        show xclR (f_K_capabilityAt z [.ref (kg W 2 (mNow c)), .int (nI a)] (kPut W h c)) _ = _
        rw [q1, xclR_some, ic_m1, if_pos nb]
        show xclR (f_K_tableAt z [.ref (kg W 2 (mNow c)), .int (nI b)] (kPut W h c)) _ = _
        rw [t_K_tableAt ok F t1 t2 hb e1, xclR_some]
        rw [kRT_n (by omega)] at e
        exact e)))
      rcases q with q | ⟨w1, W', h', c', w2, w3, w4, w5⟩
      · exact Or.inl q
      · exact Or.inr ⟨w1, W', h', c', w2, w3, w4, o', rfl, o1, o2, w5⟩
end KR
