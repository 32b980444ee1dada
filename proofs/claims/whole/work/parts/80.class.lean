/-! The class's actions: send. -/
def kSendG (c : mS) (t j : Nat) (w g r : Int32) : mR := if ¬ c 1 (vN (c 8 j)) = 1 then (1, 0, c) else if ¬ c 9 j &&& r = r then (nI 3, 0, c) else if vN (c 8 j) < 2 then (nI 4, 0, c) else if kRecv (mNote c t w (c 10 j) g) (vN (c 8 j)) = 0 then (0, 1, c) else (0, 0, c)
/-- what a delivery to v did: c1 before it, f after it -/
def kDelP (W : kW) (c1 : mS) (n u v : Nat) (W' : kW) : Prop := kT W' = kT W ∧ (kDelOk c1 u v → kC W' = kC W + 1 ∧ n + 1 ≤ kcap W') ∧ (¬ kDelOk c1 u v → W' = W)
def kSendP (W : kW) (c1 : mS) (n t o : Nat) (W' : kW) (c' : mS) : Prop := (kRecv c1 o = 0 ∧ W' = W ∧ c' = kWaits c1 t 1 o) ∨ (kRecv c1 o ≠ 0 ∧ c' = kReady (kDelS W c1 n t (kRecv c1 o)) (kRecv c1 o) ∧ kDelP W c1 n t (kRecv c1 o) W')
/-- the receiving have said where -/
def kIA (W : kW) (c : mS) : Prop := ∀ v, 1 ≤ v → v < 4 → c 15 v = nI 4 → kIn W c v
section KQ
variable {z : xzs} {W : kW} {h : xH} {c : mS} {n : Nat}
theorem kSrv_0 {o : Nat} : kSrv o = 0 ↔ ¬ o < 2 := by
  unfold kSrv
  by_cases h0 : o = 0
  · rw [if_pos h0]
    exact ⟨fun w => absurd w (by decide), fun w => by omega⟩
  · rw [if_neg h0]
    by_cases h1 : o = 1
    · rw [if_pos h1]
      exact ⟨fun w => absurd w (by decide), fun w => by omega⟩
    · rw [if_neg h1]
      exact ⟨fun _ => by omega, fun _ => rfl⟩
theorem kRecv_pos {o : Nat} (h0 : kRecv c o ≠ 0) : 1 ≤ kRecv c o ∧ kRecv c o < 4 ∧ c 15 (kRecv c o) = nI 4 := by
  have hl := kFirst_lt c o
  by_cases q : kFirst c o ≠ 0 ∧ c 15 (kFirst c o) = nI 4
  · have e : kRecv c o = kFirst c o := if_pos q
    rw [e]
    exact ⟨Nat.pos_of_ne_zero q.1, hl, q.2⟩
  · exact absurd (if_neg q) h0
theorem kP_note (K : kP z W h c n) {t : Nat} (w b : Int32) {g : Int32} (hg : isN g (kC W + 1)) : kP z W h (mNote c t w b g) n := by
  obtain ⟨ok, F, A, R, hl, hz, hn, hC⟩ := K
  refine ⟨ok, F, A, ⟨R.1, R.2.1, R.2.2.1, fun u u1 u2 => ?_, R.2.2.2.2⟩, hl, hz, hn, hC⟩
  by_cases e : u = t
  · have q : mNote c t w b g 26 u = g := by
      rw [e]; simp only [mNote, sS_app, and_self, ↓reduceIte]
    rw [q]
    have := hg.2
    omega
  · have q : mNote c t w b g 26 u = c 26 u := by
      simp only [mNote, sS_app, e, and_false, ↓reduceIte]
    rw [q]
    exact R.2.2.2.1 u u1 u2
theorem t_send56 (K : kP z W h c n) (I : kIA W c) {t j : Nat} {w g : Int32} (t1 : 1 ≤ t) (t2 : t < 4) (j1 : 1 ≤ j) (j2 : j ≤ kC W) (hg : isN g (kC W + 1)) {o : Option xR} (ho : ∀ r, B_K_send_56 z (kg W 0 0) w (some (kg W 2 t)) (some (kg W 1 j)) (kRC W g) (kPut W h c) = some r → o = some r) : kDone z W h c o (kSendG c t j w g (if g = 0 then nI 2 else nI 6)) (kSendP W (mNote c t w (c 10 j) g) n t (vN (c 8 j))) := by
  have K0 := K
  obtain ⟨ok, F, A, R, hl, hz, hn, hC⟩ := K
  have hth := F.2.2.1 _ j1 j2
  have ht2 := hth.2
  have hT := F.1.2.1
  unfold kSendG
  have go1 : ∀ (x : Int32) r, (if c 1 (vN (c 8 j)) = 1 then x = 1 else x = 0) → B_K_send_75 z (kg W 0 0) w (some (kg W 2 t)) (some (kg W 1 j)) (kRC W g) x (kPut W h c) = some r → o = some r := by
    intro x r hx q
    refine ho r (E_K_send_56 z _ _ _ _ _ _ _ ?_)
    unfold D_K_send_56
    rw [Option.bind_some, kr_thing ok j1 j2, Option.bind_some, Option.bind_some, kr_kind ok hth.2, Option.bind_some, ic_1, ic_0]
    by_cases k : c 1 (vN (c 8 j)) = 1
    · rw [if_neg (fun w => w k)]
      rw [if_pos k] at hx
      rw [hx] at q
      exact q
    · rw [if_pos k]
      rw [if_neg k] at hx
      rw [hx] at q
      exact q
  by_cases k1 : c 1 (vN (c 8 j)) = 1
  · rw [if_neg (fun w => w k1)]
    have go2 : ∀ r, B_K_send_91 z (kg W 0 0) w (some (kg W 2 t)) (some (kg W 1 j)) (kRC W g) (if g = 0 then nI 2 else nI 6) (some (kg W 1 j)) (kPut W h c) = some r → o = some r := by
      intro r q
      refine go1 1 r (by rw [if_pos k1]) (E_K_send_75 z _ _ _ _ _ _ _ _ ?_)
      unfold D_K_send_75
      rw [t_K_needKind (by decide), xclV_some]
      by_cases g0 : g = 0
      · rw [if_pos g0] at q
        rw [g0, kRC_0, xcase_n, ic_2]
        rw [g0, kRC_0] at q
        exact q
      · rw [if_neg g0] at q
        rw [kRC, if_neg g0] at q ⊢
        rw [xcase_s, show (Int8.ofInt 6).toInt32 = nI 6 from by decide]
        exact q
    by_cases k2 : c 9 j &&& (if g = 0 then nI 2 else nI 6) = (if g = 0 then nI 2 else nI 6)
    · rw [if_neg (fun w => w k2)]
      have go3 : ∀ (x : Int32) r, (if vN (c 8 j) < 2 then x = 0 else x = 1) → B_K_send_110 z (kg W 0 0) w (some (kg W 2 t)) (some (kg W 1 j)) (kRC W g) x (kPut W h c) = some r → o = some r := by
        intro x r hx q
        refine go2 r (E_K_send_91 z _ _ _ _ _ _ _ _ _ ?_)
        unfold D_K_send_91
        show xclV (f_K_needRights z [.ref (kg W 1 j), .int (if g = 0 then nI 2 else nI 6)] (kPut W h c)) _ = _
        rw [t_K_needRights ok j1 j2 k2, xclV_some, Option.bind_some, kr_thing ok j1 j2, Option.bind_some, Option.bind_some, kr_server ok hth.2, Option.bind_some, ic_0, ic_1]
        by_cases k : vN (c 8 j) < 2
        · rw [if_pos (fun w => kSrv_0.mp w k)]
          rw [if_pos k] at hx
          rw [hx] at q
          exact q
        · rw [if_neg (fun w => w (kSrv_0.mpr k))]
          rw [if_neg k] at hx
          rw [hx] at q
          exact q
      by_cases k3 : vN (c 8 j) < 2
      · rw [if_pos k3]
        refine kD_thr 4 (by decide) (by decide) rfl (go3 0 _ (by rw [if_pos k3]) (E_K_send_110 z _ _ _ _ _ _ _ _ ?_))
        unfold D_K_send_110
        rw [t_K_needState0 ok, xclV_thr]
        rfl
      · rw [if_neg k3]
        have K1 := kP_note (t := t) K0 w (c 10 j) hg
        have I1 : kIA W (mNote c t w (c 10 j) g) := I
        have go4 : ∀ r, (xcase (kB W (kRecv (mNote c t w (c 10 j) g) (vN (c 8 j)))) (xclV (f_K_beginWaiting z [.ref (kg W 0 0), .ref (kg W 2 t), .ref (kg W 5 (vN (c 8 j))), .int 1] (kPut W h (mNote c t w (c 10 j) g))) fun h33 => some (.inl (some (.int 1)), h33)) fun a31 => xclV (f_K_deliver z [.ref (kg W 0 0), .ref (kg W 2 t), .ref a31] (kPut W h (mNote c t w (c 10 j) g))) fun h34 => (xisO h34 (kg W 0 0) 0).bind fun _ => xclV (f_K_makeReady z [.ref (kg W 0 0), .ref a31] h34) fun h35 => some (.inl (some (.int 0)), h35)) = some r → o = some r := by
          intro r q
          refine go3 1 r (by rw [if_neg k3]) (E_K_send_110 z _ _ _ _ _ _ _ _ ?_)
          unfold D_K_send_110
          have e8 : mNote c t w (c 10 j) g 8 j = c 8 j := rfl
          rw [t_K_needState (by decide), xclV_some, Option.bind_some, kr_badge ok j1 j2, Option.bind_some, Option.bind_some, kisL ok t1 t2, Option.bind_some, t_L_prepare ok t1 t2, xclV_some, kr_thing ok j1 j2, Option.bind_some, kisK ok, Option.bind_some]
          show xclR (f_K_firstReceiving z [.ref (kg W 0 0), .ref (kg W 5 (vN (c 8 j)))] (kPut W h (mNote c t w (c 10 j) g))) _ = _
          rw [t_K_firstReceiving ok K1.2.1 K1.2.2.1 hth.2, xclR_some, kr_thing ok j1 j2, Option.bind_some, kisK ok, Option.bind_some, ic_1, ic_0]
          exact q
        by_cases k4 : kRecv (mNote c t w (c 10 j) g) (vN (c 8 j)) = 0
        · rw [if_pos k4]
          refine kD_same (c' := kWaits (mNote c t w (c 10 j) g) t 1 (vN (c 8 j))) K0 rfl (go4 _ ?_) (Or.inl ⟨k4, rfl, rfl⟩)
          rw [kB, if_pos k4, xcase_n, t_K_beginWaiting ok t1 t2 (by omega), xclV_some]
        · rw [if_neg k4]
          obtain ⟨v1, v2, v3⟩ := kRecv_pos k4
          have hg1 : isN (mNote c t w (c 10 j) g 26 t) (kC W + 1) := by
            have : mNote c t w (c 10 j) g 26 t = g := by simp only [mNote, sS_app, and_self, ↓reduceIte]
            rw [this]
            exact hg
          obtain ⟨W', h', e, p1, p2, p3⟩ := t_K_deliver (z := z) K1 t1 t2 v1 v2 hg1 (I1 _ v1 v2 v3)
          refine kD_ans (W' := W') (h' := h') (c' := kReady (kDelS W (mNote c t w (c 10 j) g) n t (kRecv (mNote c t w (c 10 j) g) (vN (c 8 j)))) (kRecv (mNote c t w (c 10 j) g) (vN (c 8 j)))) rfl (go4 _ ?_) (kFr.mono p1 (by decide) (by decide)) p2 (Or.inr ⟨k4, rfl, p3⟩)
          rw [kB, if_neg k4, xcase_s, e, xclV_some]
          have g0 := p2.1 0 0 (by omega) (kDom0 (by decide))
          have g2 := p2.1 2 _ (by omega) (kDom2 v1 v2)
          rw [← g0, ← g2, kisK p1.1, Option.bind_some, t_K_makeReady p1.1 v1 v2, xclV_some]
    · rw [if_pos k2]
      refine kD_thr 3 (by decide) (by decide) rfl (go2 _ (E_K_send_91 z _ _ _ _ _ _ _ _ _ ?_))
      unfold D_K_send_91
      show xclV (f_K_needRights z [.ref (kg W 1 j), .int (if g = 0 then nI 2 else nI 6)] (kPut W h c)) _ = _
      rw [t_K_needRights0 ok j1 j2 k2, xclV_thr]
      rfl
  · rw [if_pos k1]
    refine kD_thr 1 (by decide) (by decide) rfl (go1 0 _ (by rw [if_neg k1]) (E_K_send_75 z _ _ _ _ _ _ _ _ ?_))
    unfold D_K_send_75
    rw [t_K_needKind0 ok, xclV_thr]
    rfl
def kSend0 (c : mS) (t a : Nat) (w : Int32) : mR := if mCapa c t a = 0 then (nI 2, 0, c) else kSendG c t (vN (mCapa c t a)) w 0 (nI 2)
def kSend1 (c : mS) (t a b : Nat) (w : Int32) : mR := if mCapa c t a = 0 ∨ mCapa c t b = 0 then (nI 2, 0, c) else kSendG c t (vN (mCapa c t a)) w (mCapa c t b) (nI 6)
theorem nI_m1 {b : Nat} (hb : b < 2 ^ 31) : ¬ nI b = -1 := fun e => nI_pos hb (by rw [e]; decide)
theorem t_K_send_bad (K : kP z W h c n) {p1 p2 p3 : Int32} (hr : mNow c = 0 ∨ ¬ (rAd p1 ∧ rIn p3 (-1) (nI 71))) (P : kW → mS → Prop) : kDone z W h c (f_K_send z [.ref (kg W 0 0), .int p1, .int p2, .int p3] (kPut W h c)) (mRef c) P := by
  have ok := K.1
  by_cases h0 : mNow c = 0
  · refine kD_thr 4 (by decide) (by decide) (if_pos h0) (E_K_send z _ _ _ _ _ _ ?_)
    unfold D_K_send_0
    rw [kisK ok, Option.bind_some, t_K_actor0 ok h0, xclR_thr]
    rfl
  · refine kD_thr 1 (by decide) (by decide) (if_neg h0) (E_K_send z _ _ _ _ _ _ ?_)
    have e29 : B_K_send_29 z (kg W 0 0) p1 p2 p3 (some (kg W 2 (mNow c))) (kPut W h c) = kThr z W h c 8 := by
      refine E_K_send_29 z _ _ _ _ _ _ _ ?_
      unfold D_K_send_29
      refine E_K_send_30 z _ _ _ _ _ _ _ _ ?_
      unfold D_K_send_30
      rw [ic_0, t_K_needNumbers0 ok, xclV_thr]
      rfl
    unfold D_K_send_0
    rw [kisK ok, Option.bind_some, t_K_actor ok h0, xclR_some, t_K_isAddress, xclI_some]
    by_cases r1 : rAd p1
    · have r3 : ¬ rIn p3 (-1) (nI 71) := fun r => hr.elim h0 (fun w => w ⟨r1, r⟩)
      have n1 : ¬ p3 = -1 := fun e => r3 (by rw [e]; unfold rIn; decide)
      have r2 : ¬ rAd p3 := fun r => r3 (by
        rintro (w | w)
        · exact r (Or.inl (Int32.lt_trans w (by decide)))
        · exact r (Or.inr w))
      rw [rAd_if r1, if_neg (by decide), ic_m1, if_neg n1, t_K_isAddress, xclI_some, rAd_no r2, if_pos rfl]
      exact e29
    · rw [rAd_no r1, if_pos rfl]
      exact e29
theorem t_K_send0 (K : kP z W h c n) (I : kIA W c) {a : Nat} {w : Int32} (h0 : mNow c ≠ 0) (ha : a < 72) : kDone z W h c (f_K_send z [.ref (kg W 0 0), .int (nI a), .int w, .int (-1)] (kPut W h c)) (kSend0 c (mNow c) a w) (kSendP W (mNote c (mNow c) w (c 10 (vN (mCapa c (mNow c) a))) 0) n (mNow c) (vN (c 8 (vN (mCapa c (mNow c) a))))) := by
  have K0 := K
  obtain ⟨ok, F, A, R, hl, hz, hn, hC⟩ := K
  have t1 := mNow_pos h0
  have t2 := mNow_lt c
  have go : ∀ r, B_K_send_30 z (kg W 0 0) (nI a) w (-1) (some (kg W 2 (mNow c))) 1 (kPut W h c) = some r → f_K_send z [.ref (kg W 0 0), .int (nI a), .int w, .int (-1)] (kPut W h c) = some r := by
    intro r q
    refine E_K_send z _ _ _ _ _ _ ?_
    unfold D_K_send_0
    rw [kisK ok, Option.bind_some, t_K_actor ok h0, xclR_some, t_K_isAddress, xclI_some, rAd_if (rAd_nI ha), if_neg (by decide), ic_m1, if_pos rfl]
    refine E_K_send_25 z _ _ _ _ _ _ _ ?_
    unfold D_K_send_25
    rw [ic_1]
    exact q
  unfold kSend0
  by_cases c0 : mCapa c (mNow c) a = 0
  · rw [if_pos c0]
    refine kD_thr 2 (by decide) (by decide) rfl (go _ (E_K_send_30 z _ _ _ _ _ _ _ _ ?_))
    unfold D_K_send_30
    rw [t_K_needNumbers (by decide), xclV_some]
    show xclR (f_K_capabilityAt z [.ref (kg W 2 (mNow c)), .int (nI a)] (kPut W h c)) _ = _
    rw [t_K_capabilityAt0 ok F t1 t2 ha c0, xclR_thr]
    rfl
  · rw [if_neg c0]
    obtain ⟨j1, j2⟩ := kCapN F t1 t2 ha c0
    have q := t_send56 (z := z) (g := 0) (w := w) K0 I t1 t2 j1 j2 (isN_nI (n := 0) (by omega) (by omega)) (o := f_K_send z [.ref (kg W 0 0), .int (nI a), .int w, .int (-1)] (kPut W h c)) (fun r e => go r (E_K_send_30 z _ _ _ _ _ _ _ _ (by
      unfold D_K_send_30
      rw [t_K_needNumbers (by decide), xclV_some]
      show xclR (f_K_capabilityAt z [.ref (kg W 2 (mNow c)), .int (nI a)] (kPut W h c)) _ = _
      rw [t_K_capabilityAt ok F t1 t2 ha c0, xclR_some, ic_m1, if_neg (fun w => w rfl)]
      rw [kRC_0] at e
      exact e)))
    rw [if_pos rfl] at q
    exact q
theorem t_K_send1 (K : kP z W h c n) (I : kIA W c) {a b : Nat} {w : Int32} (h0 : mNow c ≠ 0) (ha : a < 72) (hb : b < 72) : kDone z W h c (f_K_send z [.ref (kg W 0 0), .int (nI a), .int w, .int (nI b)] (kPut W h c)) (kSend1 c (mNow c) a b w) (kSendP W (mNote c (mNow c) w (c 10 (vN (mCapa c (mNow c) a))) (mCapa c (mNow c) b)) n (mNow c) (vN (c 8 (vN (mCapa c (mNow c) a))))) := by
  have K0 := K
  obtain ⟨ok, F, A, R, hl, hz, hn, hC⟩ := K
  have t1 := mNow_pos h0
  have t2 := mNow_lt c
  have nb := nI_m1 (b := b) (by omega)
  have go : ∀ r, B_K_send_30 z (kg W 0 0) (nI a) w (nI b) (some (kg W 2 (mNow c))) 1 (kPut W h c) = some r → f_K_send z [.ref (kg W 0 0), .int (nI a), .int w, .int (nI b)] (kPut W h c) = some r := by
    intro r q
    refine E_K_send z _ _ _ _ _ _ ?_
    unfold D_K_send_0
    rw [kisK ok, Option.bind_some, t_K_actor ok h0, xclR_some, t_K_isAddress, xclI_some, rAd_if (rAd_nI ha), if_neg (by decide), ic_m1, if_neg nb, t_K_isAddress, xclI_some, rAd_if (rAd_nI hb), if_neg (by decide)]
    refine E_K_send_25 z _ _ _ _ _ _ _ ?_
    unfold D_K_send_25
    rw [ic_1]
    exact q
  unfold kSend1
  by_cases c0 : mCapa c (mNow c) a = 0
  · rw [if_pos (Or.inl c0)]
    refine kD_thr 2 (by decide) (by decide) rfl (go _ (E_K_send_30 z _ _ _ _ _ _ _ _ ?_))
    unfold D_K_send_30
    rw [t_K_needNumbers (by decide), xclV_some]
    show xclR (f_K_capabilityAt z [.ref (kg W 2 (mNow c)), .int (nI a)] (kPut W h c)) _ = _
    rw [t_K_capabilityAt0 ok F t1 t2 ha c0, xclR_thr]
    rfl
  · have q1 := t_K_capabilityAt (z := z) ok F t1 t2 ha c0
    by_cases c1 : mCapa c (mNow c) b = 0
    · rw [if_pos (Or.inr c1)]
      refine kD_thr 2 (by decide) (by decide) rfl (go _ (E_K_send_30 z _ _ _ _ _ _ _ _ ?_))
      unfold D_K_send_30
      rw [t_K_needNumbers (by decide), xclV_some]
      show xclR (f_K_capabilityAt z [.ref (kg W 2 (mNow c)), .int (nI a)] (kPut W h c)) _ = _
      rw [q1, xclR_some, ic_m1, if_pos nb]
      show xclR (f_K_capabilityAt z [.ref (kg W 2 (mNow c)), .int (nI b)] (kPut W h c)) _ = _
      rw [t_K_capabilityAt0 ok F t1 t2 hb c1, xclR_thr]
      rfl
    · rw [if_neg (by rintro (w | w); exact c0 w; exact c1 w)]
      obtain ⟨j1, j2⟩ := kCapN F t1 t2 ha c0
      have q := t_send56 (z := z) (g := mCapa c (mNow c) b) (w := w) K0 I t1 t2 j1 j2 (mCapa_ok F t1 t2 hb) (o := f_K_send z [.ref (kg W 0 0), .int (nI a), .int w, .int (nI b)] (kPut W h c)) (fun r e => go r (E_K_send_30 z _ _ _ _ _ _ _ _ (by
        unfold D_K_send_30
        rw [t_K_needNumbers (by decide), xclV_some]
        show xclR (f_K_capabilityAt z [.ref (kg W 2 (mNow c)), .int (nI a)] (kPut W h c)) _ = _
        rw [q1, xclR_some, ic_m1, if_pos nb]
        show xclR (f_K_capabilityAt z [.ref (kg W 2 (mNow c)), .int (nI b)] (kPut W h c)) _ = _
        rw [t_K_capabilityAt ok F t1 t2 hb c1, xclR_some]
        rw [kRC, if_neg c1] at e
        exact e)))
      rw [if_neg c1] at q
      exact q
end KQ
