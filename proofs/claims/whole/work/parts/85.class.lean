/-! The class's actions: the names; call. -/
section KV
variable {z : xzs} {W : kW} {h : xH} {c : mS} {n : Nat}
theorem t_K_reach_far {t a : Nat} (ha : 72 ≤ a) (ha2 : a < 2 ^ 31) (H : xH) : f_K_reach z [.ref (kg W 2 t), .int (nI a)] H = some (.inl (some (va_rf none)), H) := by
  refine E_K_reach z (some (kg W 2 t)) _ _ _ ?_
  unfold D_K_reach_0
  rw [t_K_isAddress, xclI_some, if_pos (show nI a < 0 ∨ nI 71 < nI a from Or.inr (nI_lt (by omega) ha2)), if_neg (fun w => w rfl)]
def kNamA (c : mS) (t : Nat) (w : Int32) : Int32 := if w < 0 ∨ ¬ vN w / 100 = 1 then -2 else if ¬ vN w % 100 < 72 then -1 else match kTab c t (vN w % 100) with
  | none => -1
  | some o => if c 14 (8 * o + vN w % 100 % 8) = 0 then 0 else -1
def kNamP (W : kW) (c : mS) (n t : Nat) (w b : Int32) (W' : kW) (c' : mS) : Prop := (kNamA c t w ≠ 0 ∧ W' = W ∧ c' = c) ∨ (kNamA c t w = 0 ∧ vN w % 100 < 72 ∧ ∃ o, kTab c t (vN w % 100) = some o ∧ kAdd1 W c n 1 (nI 2) b 0 o (vN w % 100 % 8) W' c')
theorem t_K_names (K : kP z W h c n) {t : Nat} (t1 : 1 ≤ t) (t2 : t < 4) (b w : Int32) : ∃ W' h' c', f_K_namesAnswers z [.ref (kg W 0 0), .ref (kg W 2 t), .int b, .int w] (kPut W h c) = some (.inl (some (.int (kNamA c t w))), kPut W' h' c') ∧ kFr 2 2007 W h W' h' ∧ kXt W W' ∧ kNamP W c n t w b W' c' := by
  obtain ⟨ok, F, A, R, hl, hz, hn, hC⟩ := K
  have e12 : B_K_namesAnswers_12 z (kPut W h c) = some (.inl (some (.int (-2))), kPut W h c) := by
    refine E_K_namesAnswers_12 z _ _ ?_
    unfold D_K_namesAnswers_12
    rw [bc_m2]
  have e47 : B_K_namesAnswers_47 z (kPut W h c) = some (.inl (some (.int (-1))), kPut W h c) := by
    refine E_K_namesAnswers_47 z _ _ ?_
    unfold D_K_namesAnswers_47
    rw [ic_m1]
  have no : ∀ x : Int32, x ≠ 0 → kNamA c t w = x → f_K_namesAnswers z [.ref (kg W 0 0), .ref (kg W 2 t), .int b, .int w] (kPut W h c) = some (.inl (some (.int x)), kPut W h c) → ∃ W' h' c', f_K_namesAnswers z [.ref (kg W 0 0), .ref (kg W 2 t), .int b, .int w] (kPut W h c) = some (.inl (some (.int (kNamA c t w))), kPut W' h' c') ∧ kFr 2 2007 W h W' h' ∧ kXt W W' ∧ kNamP W c n t w b W' c' := by
    intro x x0 e q
    exact ⟨W, h, c, by rw [e]; exact q, kFr.mono (kFr.rf ok) (by decide) (by decide), kXt.rf hl.2.2.1, Or.inl ⟨by rw [e]; exact x0, rfl, rfl⟩⟩
  by_cases k0 : w < 0
  · refine no (-2) (by decide) (if_pos (Or.inl k0)) (E_K_namesAnswers z _ (some (kg W 2 t)) _ _ _ _ ?_)
    unfold D_K_namesAnswers_0
    rw [if_pos k0, e12]
  obtain ⟨m, hm, e⟩ := nI_of k0
  subst e
  have vm : vN (nI m) = m := vN_nI hm
  by_cases k1 : m / 100 = 1
  · have go : ∀ r, (xclR (f_K_reach z [.ref (kg W 2 t), .int (nI (m % 100))] (kPut W h c)) fun r2 h1 => xcase r2 (B_K_namesAnswers_47 z h1) fun a3 => xclI (f_K_slotOf z [.int (nI (m % 100))] h1) fun x5 h4 => (xisO h4 a3 5).bind fun _ => xclI (f_T_isFree z [.ref a3, .int x5] h4) fun x7 h6 => if ¬ x7 = 0 then xlet (xn h6) (xpush h6 7 (.inr (1, [.null, .int 0, .int 0, .null, .null, .int 0, .int 0]))) fun a8 h9 => (rdR h9 (kg W 0 0) 0 1).bind fun r10 => xclC (f_C_new z [.ref a8, va_rf r10, .int (Int32.ofInt 2), .int b, .null] h9) fun h11 => xclI (f_K_slotOf z [.int (nI (m % 100))] h11) fun x13 h12 => (xisO h12 (kg W 0 0) 0).bind fun _ => xclV (f_K_put z [.ref (kg W 0 0), .ref a8, .ref a3, .int x13] h12) fun h14 => some (.inl (some (.int (Int32.ofInt 0))), h14) else B_K_namesAnswers_47 z h6) = some r → f_K_namesAnswers z [.ref (kg W 0 0), .ref (kg W 2 t), .int b, .int (nI m)] (kPut W h c) = some r := by
      intro r q
      refine E_K_namesAnswers z _ (some (kg W 2 t)) _ _ _ _ ?_
      unfold D_K_namesAnswers_0
      rw [if_neg k0, bc_100, pk_rem hm (by decide) (by decide), pk_div hm (by decide) (by decide), if_pos (by rw [k1]; decide)]
      exact q
    by_cases k2 : m % 100 < 72
    · cases e1 : kTab c t (m % 100) with
      | none =>
        refine no (-1) (by decide) ?_ (go _ ?_)
        · unfold kNamA
          rw [vm, if_neg (by rintro (q | q); exact k0 q; exact q k1), if_neg (fun q => q k2), e1]
        · rw [t_K_reach ok F t1 t2 k2, xclR_some, e1]
          exact e47
      | some o =>
        obtain ⟨o1, o2⟩ := kTab_ok F t1 t2 k2 e1
        have hmm : m % 100 % 8 < 8 := Nat.mod_lt _ (by decide)
        by_cases k3 : c 14 (8 * o + m % 100 % 8) = 0
        · have eA : kNamA c t (nI m) = 0 := by
            unfold kNamA
            rw [vm, if_neg (by rintro (q | q); exact k0 q; exact q k1), if_neg (fun q => q k2), e1]
            exact if_pos k3
          obtain ⟨W', h', e, p1, p2, p3, p4, p5, p6⟩ := t_K_putNew (z := z) (th := 1) (r := nI 2) (b := b) (p := 0) ok R hz hl hn hC o1 o2 hmm (by have := F.1.1; omega) (Nat.zero_le _)
          refine ⟨W', h', kDerS c (kC W + 1) 1 (nI 2) b 0 o (m % 100 % 8) n, ?_, p1, p2, Or.inr ⟨eA, by rw [vm]; exact k2, o, by rw [vm]; exact e1, by have := F.1.1; omega, o1, by rw [vm]; exact hmm, o2, by rw [vm]; exact k3, p3, p4, p5, by rw [vm]⟩⟩
          rw [eA]
          refine go _ ?_
          have cn := t_C_new (z := z) (kPut W h c) 7 (some (kg W 5 1)) none (nI 2) b
          have ok2 := kOk_push ok 7 (.inr (1, [.null, .int 0, .int 0, .null, .null, .int 0, .int 0]))
          rw [t_K_reach ok F t1 t2 k2, xclR_some, e1, Option.map_some, xcase_s, t_K_slotOf (by omega), xclI_some, kisT ok o1, Option.bind_some, t_T_isFree ok o1 hmm, xclI_some, show (if c 1 o = nI 3 ∧ c 14 (8 * o + m % 100 % 8) = 0 then (1 : Int32) else 0) = 1 from if_pos ⟨o2, k3⟩, if_pos (show ¬ (1 : Int32) = 0 by decide)]
          show ((rdR (xpush (kPut W h c) 7 (.inr (1, [.null, .int 0, .int 0, .null, .null, .int 0, .int 0]))) (kg W 0 0) 0 1).bind fun r10 => _) = _
          rw [kPut_push ok, kr_filesEndpoint ok2, Option.bind_some, ← kPut_push ok, ic_2]
          show xclC (f_C_new z [.ref (xn (kPut W h c)), va_rf (some (kg W 5 1)), .int (nI 2), .int b, va_rf none] _) _ = _
          rw [cn, xclC_some, kPut_push ok, kPut_n]
          have ec : (Sum.inr (1, [va_rf (some (kg W 5 1)), .int (nI 2), .int b, va_rf none, .null, .int 0, .int 0]) : va_E) = kCapE W 1 (nI 2) b 0 := by
            unfold kCapE
            rw [kRC_0]
            rfl
          rw [ec, t_K_slotOf (by omega), xclI_some, kisK (kOk_push ok _ _), Option.bind_some, e, xclV_some, ic_0]
        · refine no (-1) (by decide) ?_ (go _ ?_)
          · unfold kNamA
            rw [vm, if_neg (by rintro (q | q); exact k0 q; exact q k1), if_neg (fun q => q k2), e1]
            exact if_neg k3
          · rw [t_K_reach ok F t1 t2 k2, xclR_some, e1, Option.map_some, xcase_s, t_K_slotOf (by omega), xclI_some, kisT ok o1, Option.bind_some, t_T_isFree ok o1 hmm, xclI_some, show (if c 1 o = nI 3 ∧ c 14 (8 * o + m % 100 % 8) = 0 then (1 : Int32) else 0) = 0 from if_neg (fun q => k3 q.2), if_neg (fun q => q rfl), e47]
    · refine no (-1) (by decide) ?_ (go _ ?_)
      · unfold kNamA
        rw [vm, if_neg (by rintro (q | q); exact k0 q; exact q k1), if_pos k2]
      · rw [t_K_reach_far (by omega) (by omega), xclR_some, xcase_n, e47]
  · refine no (-2) (by decide) (if_pos (Or.inr (by rw [vm]; exact k1))) (E_K_namesAnswers z _ (some (kg W 2 t)) _ _ _ _ ?_)
    unfold D_K_namesAnswers_0
    rw [if_neg k0, bc_100, pk_div hm (by decide) (by decide), ic_1n, if_neg (fun q => k1 ((nI_eq (a := m / 100) (b := 1) (by omega) (by decide)).mp q)), e12]
/-- what a server answered, and what is then -/
def kSrvP (W : kW) (c : mS) (n t j : Nat) (w : Int32) (x : Int32) (W' : kW) (c' : mS) : Prop := (vN (c 8 j) = 0 ∧ x = kNamA c t w ∧ kNamP W c n t w (c 10 j) W' c') ∨ (vN (c 8 j) = 1 ∧ x = (kServe c (c 10 j) w).1 ∧ W' = W ∧ c' = (kServe c (c 10 j) w).2)
theorem t_K_serverAnswers (K : kP z W h c n) {t j : Nat} (t1 : 1 ≤ t) (t2 : t < 4) (j1 : 1 ≤ j) (j2 : j ≤ kC W) (ho : vN (c 8 j) < 2) (w : Int32) : ∃ x W' h' c', f_K_serverAnswers z [.ref (kg W 0 0), .ref (kg W 2 t), .ref (kg W 1 j), .int w] (kPut W h c) = some (.inl (some (.int x)), kPut W' h' c') ∧ kFr 2 2007 W h W' h' ∧ kXt W W' ∧ kSrvP W c n t j w x W' c' := by
  have K0 := K
  obtain ⟨ok, F, A, R, hl, hz, hn, hC⟩ := K
  have hth := F.2.2.1 _ j1 j2
  have e36 : ∀ x H, B_K_serverAnswers_36 z x H = some (.inl (some (.int x)), H) := fun x H => E_K_serverAnswers_36 z _ _ _ rfl
  by_cases k0 : vN (c 8 j) = 0
  · obtain ⟨W', h', c', e, p1, p2, p3⟩ := t_K_names (z := z) K0 t1 t2 (c 10 j) w
    refine ⟨kNamA c t w, W', h', c', E_K_serverAnswers z _ (some (kg W 2 t)) (some (kg W 1 j)) _ _ _ ?_, p1, p2, Or.inl ⟨k0, rfl, p3⟩⟩
    unfold D_K_serverAnswers_0
    rw [Option.bind_some, kr_thing ok j1 j2, Option.bind_some, Option.bind_some, kr_server ok hth.2, Option.bind_some, k0, ic_1, if_neg (fun q => q rfl), kr_badge ok j1 j2, Option.bind_some, kisK ok, Option.bind_some]
    show xclI (f_K_namesAnswers z [.ref (kg W 0 0), .ref (kg W 2 t), .int (c 10 j), .int w] (kPut W h c)) _ = _
    rw [e, xclI_some, e36]
  · have k1 : vN (c 8 j) = 1 := by omega
    refine ⟨(kServe c (c 10 j) w).1, W, h, (kServe c (c 10 j) w).2, E_K_serverAnswers z _ (some (kg W 2 t)) (some (kg W 1 j)) _ _ _ ?_, kFr.mono (kFr.rf ok) (by decide) (by decide), kXt.rf hl.2.2.1, Or.inr ⟨k1, rfl, rfl, rfl⟩⟩
    unfold D_K_serverAnswers_0
    rw [Option.bind_some, kr_thing ok j1 j2, Option.bind_some, Option.bind_some, kr_server ok hth.2, Option.bind_some, k1, ic_1, if_pos (by decide), kr_fileServer ok, Option.bind_some, kr_badge ok j1 j2, Option.bind_some, Option.bind_some, kisF ok, Option.bind_some, t_F_serve ok, xclI_some, e36]
-- call
def kCal1 (c : mS) (t j : Nat) (w : Int32) : mS := sS (mNote c t w (c 10 j) 0) 28 t (c 28 t + 1)
def kCallG (c : mS) (t a : Nat) (w : Int32) : mR := if mCapa c t a = 0 then (nI 2, 0, c) else if ¬ c 1 (vN (c 8 (vN (mCapa c t a)))) = 1 then (1, 0, c) else if ¬ c 9 (vN (mCapa c t a)) &&& nI 2 = nI 2 then (nI 3, 0, c)
  else if vN (c 8 (vN (mCapa c t a))) < 2 then (0, nI 2, c) else if kRecv (kCal1 c t (vN (mCapa c t a)) w) (vN (c 8 (vN (mCapa c t a)))) = 0 then (0, 1, c) else (0, 0, c)
def kCallP (W : kW) (c : mS) (n t j : Nat) (w : Int32) (W' : kW) (c' : mS) : Prop := (vN (c 8 j) < 2 ∧ ∃ x c2, kSrvP W c n t j w x W' c2 ∧ c' = mComes c2 t x 0 (-1)) ∨ (¬ vN (c 8 j) < 2 ∧ ((kRecv (kCal1 c t j w) (vN (c 8 j)) = 0 ∧ W' = W ∧ c' = kWaits (kCal1 c t j w) t (nI 2) (vN (c 8 j))) ∨ (kRecv (kCal1 c t j w) (vN (c 8 j)) ≠ 0 ∧ c' = kReady (kAsks (kDelS W (kCal1 c t j w) n t (kRecv (kCal1 c t j w) (vN (c 8 j)))) t (kRecv (kCal1 c t j w) (vN (c 8 j)))) (kRecv (kCal1 c t j w) (vN (c 8 j))) ∧ kDelP W (kCal1 c t j w) n t (kRecv (kCal1 c t j w) (vN (c 8 j))) W')))
theorem t_K_call_bad (K : kP z W h c n) {p1 p2 : Int32} (hr : mNow c = 0 ∨ ¬ rAd p1) (P : kW → mS → Prop) : kDone z W h c (f_K_call z [.ref (kg W 0 0), .int p1, .int p2] (kPut W h c)) (mRef c) P := by
  have ok := K.1
  by_cases h0 : mNow c = 0
  · refine kD_thr 4 (by decide) (by decide) (if_pos h0) (E_K_call z _ _ _ _ _ ?_)
    unfold D_K_call_0
    rw [kisK ok, Option.bind_some, t_K_actor0 ok h0, xclR_thr]
    rfl
  · refine kD_thr 1 (by decide) (by decide) (if_neg h0) (E_K_call z _ _ _ _ _ ?_)
    unfold D_K_call_0
    rw [kisK ok, Option.bind_some, t_K_actor ok h0, xclR_some, t_K_isAddress, xclI_some, rAd_no (fun r => hr.elim h0 (fun w => w r)), t_K_needNumbers0 ok, xclV_thr]
    rfl
theorem t_K_call (K : kP z W h c n) (I : kIA W c) {a : Nat} {w : Int32} (h0 : mNow c ≠ 0) (ha : a < 72) : kDone z W h c (f_K_call z [.ref (kg W 0 0), .int (nI a), .int w] (kPut W h c)) (kCallG c (mNow c) a w) (kCallP W c n (mNow c) (vN (mCapa c (mNow c) a)) w) := by
  have K0 := K
  obtain ⟨ok, F, A, R, hl, hz, hn, hC⟩ := K
  have t1 := mNow_pos h0
  have t2 := mNow_lt c
  unfold kCallG
  by_cases c0 : mCapa c (mNow c) a = 0
  · rw [if_pos c0]
    refine kD_thr 2 (by decide) (by decide) rfl (E_K_call z _ _ _ _ _ ?_)
    unfold D_K_call_0
    rw [kisK ok, Option.bind_some, t_K_actor ok h0, xclR_some, t_K_isAddress, xclI_some, rAd_if (rAd_nI ha), t_K_needNumbers (by decide), xclV_some]
    show xclR (f_K_capabilityAt z [.ref (kg W 2 (mNow c)), .int (nI a)] (kPut W h c)) _ = _
    rw [t_K_capabilityAt0 ok F t1 t2 ha c0, xclR_thr]
    rfl
  · rw [if_neg c0]
    obtain ⟨j1, j2⟩ := kCapN F t1 t2 ha c0
    have hth := F.2.2.1 _ j1 j2
    have ht2 := hth.2
    have hT := F.1.2.1
    have q1 := t_K_capabilityAt (z := z) ok F t1 t2 ha c0
    generalize hj : vN (mCapa c (mNow c) a) = j at j1 j2 hth ht2 q1 ⊢
    have go : ∀ (x : Int32) r, (if c 1 (vN (c 8 j)) = 1 then x = 1 else x = 0) → B_K_call_36 z (kg W 0 0) w (some (kg W 2 (mNow c))) (some (kg W 1 j)) x (kPut W h c) = some r → f_K_call z [.ref (kg W 0 0), .int (nI a), .int w] (kPut W h c) = some r := by
      intro x r hx q
      refine E_K_call z _ _ _ _ _ ?_
      unfold D_K_call_0
      rw [kisK ok, Option.bind_some, t_K_actor ok h0, xclR_some, t_K_isAddress, xclI_some, rAd_if (rAd_nI ha), t_K_needNumbers (by decide), xclV_some]
      show xclR (f_K_capabilityAt z [.ref (kg W 2 (mNow c)), .int (nI a)] (kPut W h c)) _ = _
      rw [q1, xclR_some, Option.bind_some, kr_thing ok j1 j2, Option.bind_some, Option.bind_some, kr_kind ok hth.2, Option.bind_some, ic_1, ic_0]
      by_cases k : c 1 (vN (c 8 j)) = 1
      · rw [if_neg (fun w => w k)]
        rw [if_pos k] at hx
        rw [hx] at q
        exact q
      · rw [if_pos k]
        rw [if_neg k] at hx
        rw [hx] at q
        exact q
    by_cases k1 : c 1 (vN (c 8 j)) = 1
    · rw [if_neg (fun w => w k1)]
      by_cases k2 : c 9 j &&& nI 2 = nI 2
      · rw [if_neg (fun w => w k2)]
        by_cases k3 : vN (c 8 j) < 2
        · rw [if_pos k3]
          obtain ⟨x, W', h', c', e, p1, p2, p3⟩ := t_K_serverAnswers (z := z) K0 t1 t2 j1 j2 k3 w
          refine kD_ans (W' := W') (h' := h') (c' := mComes c' (mNow c) x 0 (-1)) rfl (go 1 _ (by rw [if_pos k1]) (E_K_call_36 z _ _ _ _ _ _ _ ?_)) (kFr.mono p1 (by decide) (by decide)) p2 (Or.inl ⟨k3, x, c', p3, rfl⟩)
          unfold D_K_call_36
          rw [t_K_needKind (by decide), xclV_some]
          show xclV (f_K_needRights z [.ref (kg W 1 j), .int (Int32.ofInt 2)] (kPut W h c)) _ = _
          rw [ic_2, t_K_needRights ok j1 j2 k2, xclV_some, Option.bind_some, kr_thing ok j1 j2, Option.bind_some, Option.bind_some, kr_server ok hth.2, Option.bind_some, if_neg (fun q => kSrv_0.mp q k3), kisK ok, Option.bind_some]
          show xclI (f_K_serverAnswers z [.ref (kg W 0 0), .ref (kg W 2 (mNow c)), .ref (kg W 1 j), .int w] (kPut W h c)) _ = _
          have g2 := p2.1 2 _ (by omega) (kDom2 t1 t2)
          rw [e, xclI_some, Option.bind_some, ← g2, kisL p1.1 t1 t2, Option.bind_some, ic_0, ic_m1, t_L_hear p1.1 t1 t2, xclV_some]
        · rw [if_neg k3]
          have K1 : kP z W h (kCal1 c (mNow c) j w) n := by
            have := kP_note (t := mNow c) K0 w (c 10 j) (g := 0) (isN_nI (n := 0) (by omega) (by omega))
            exact this
          have I1 : kIA W (kCal1 c (mNow c) j w) := I
          have go2 : ∀ r, (xcase (kB W (kRecv (kCal1 c (mNow c) j w) (vN (c 8 j)))) (xclV (f_K_beginWaiting z [.ref (kg W 0 0), .ref (kg W 2 (mNow c)), .ref (kg W 5 (vN (c 8 j))), .int (nI 2)] (kPut W h (kCal1 c (mNow c) j w))) fun h28 => some (.inl (some (.int 1)), h28)) fun a26 => xclV (f_K_deliver z [.ref (kg W 0 0), .ref (kg W 2 (mNow c)), .ref a26] (kPut W h (kCal1 c (mNow c) j w))) fun h29 => xclV (f_K_beginAsking z [.ref (kg W 2 (mNow c)), .ref a26] h29) fun h30 => (xisO h30 (kg W 0 0) 0).bind fun _ => xclV (f_K_makeReady z [.ref (kg W 0 0), .ref a26] h30) fun h31 => some (.inl (some (.int 0)), h31)) = some r → f_K_call z [.ref (kg W 0 0), .int (nI a), .int w] (kPut W h c) = some r := by
            intro r q
            refine go 1 _ (by rw [if_pos k1]) (E_K_call_36 z _ _ _ _ _ _ _ ?_)
            unfold D_K_call_36
            rw [t_K_needKind (by decide), xclV_some]
            show xclV (f_K_needRights z [.ref (kg W 1 j), .int (Int32.ofInt 2)] (kPut W h c)) _ = _
            rw [ic_2, t_K_needRights ok j1 j2 k2, xclV_some, Option.bind_some, kr_thing ok j1 j2, Option.bind_some, Option.bind_some, kr_server ok hth.2, Option.bind_some, if_pos (kSrv_0.mpr k3), kr_badge ok j1 j2, Option.bind_some, Option.bind_some, kisL ok t1 t2, Option.bind_some]
            have pr := t_L_prepare (z := z) (c := c) ok t1 t2 w (c 10 j) 0
            rw [kRC_0] at pr
            show xclV (f_L_prepare z [.ref (kg W 2 (mNow c)), .int w, .int (c 10 j), va_rf none] (kPut W h c)) _ = _
            rw [pr, xclV_some, kr_calls ok t1 t2, Option.bind_some, ic_1, kw_calls ok t1 t2, Option.bind_some, kr_thing ok j1 j2, Option.bind_some, kisK ok, Option.bind_some]
            show xclR (f_K_firstReceiving z [.ref (kg W 0 0), .ref (kg W 5 (vN (c 8 j)))] (kPut W h (kCal1 c (mNow c) j w))) _ = _
            rw [t_K_firstReceiving ok K1.2.1 K1.2.2.1 hth.2, xclR_some, kr_thing ok j1 j2, Option.bind_some, kisK ok, Option.bind_some, ic_0]
            exact q
          by_cases k4 : kRecv (kCal1 c (mNow c) j w) (vN (c 8 j)) = 0
          · rw [if_pos k4]
            refine kD_same (c' := kWaits (kCal1 c (mNow c) j w) (mNow c) (nI 2) (vN (c 8 j))) K0 rfl (go2 _ ?_) (Or.inr ⟨k3, Or.inl ⟨k4, rfl, rfl⟩⟩)
            rw [kB, if_pos k4, xcase_n, t_K_beginWaiting ok t1 t2 (by omega), xclV_some]
          · rw [if_neg k4]
            obtain ⟨v1, v2, v3⟩ := kRecv_pos k4
            have hg1 : isN (kCal1 c (mNow c) j w 26 (mNow c)) (kC W + 1) := by
              have : kCal1 c (mNow c) j w 26 (mNow c) = 0 := by simp only [kCal1, mNote, sS_app, Nat.reduceEqDiff, false_and, and_self, ↓reduceIte]
              rw [this]
              exact isN_nI (n := 0) (by omega) (by omega)
            obtain ⟨W', h', e, p1, p2, p3⟩ := t_K_deliver (z := z) K1 t1 t2 v1 v2 hg1 (I1 _ v1 v2 v3)
            refine kD_ans (W' := W') (h' := h') (c' := kReady (kAsks (kDelS W (kCal1 c (mNow c) j w) n (mNow c) (kRecv (kCal1 c (mNow c) j w) (vN (c 8 j)))) (mNow c) (kRecv (kCal1 c (mNow c) j w) (vN (c 8 j)))) (kRecv (kCal1 c (mNow c) j w) (vN (c 8 j)))) rfl (go2 _ ?_) (kFr.mono p1 (by decide) (by decide)) p2 (Or.inr ⟨k3, Or.inr ⟨k4, rfl, p3⟩⟩)
            have g0 := p2.1 0 0 (by omega) (kDom0 (by decide))
            have g2 := p2.1 2 _ (by omega) (kDom2 v1 v2)
            have g3 := p2.1 2 _ (by omega) (kDom2 t1 t2)
            rw [kB, if_neg k4, xcase_s, e, xclV_some, ← g0, ← g2, ← g3, t_K_beginAsking p1.1 t1 t2 v1 v2, xclV_some, kisK p1.1, Option.bind_some, t_K_makeReady p1.1 v1 v2, xclV_some]
      · rw [if_pos k2]
        refine kD_thr 3 (by decide) (by decide) rfl (go 1 _ (by rw [if_pos k1]) (E_K_call_36 z _ _ _ _ _ _ _ ?_))
        unfold D_K_call_36
        rw [t_K_needKind (by decide), xclV_some]
        show xclV (f_K_needRights z [.ref (kg W 1 j), .int (Int32.ofInt 2)] (kPut W h c)) _ = _
        rw [ic_2, t_K_needRights0 ok j1 j2 k2, xclV_thr]
        rfl
    · rw [if_pos k1]
      refine kD_thr 1 (by decide) (by decide) rfl (go 0 _ (by rw [if_neg k1]) (E_K_call_36 z _ _ _ _ _ _ _ ?_))
      unfold D_K_call_36
      rw [t_K_needKind0 ok, xclV_thr]
      rfl
end KV
