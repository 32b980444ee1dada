/-! Alike: a delivery; send. -/
section LO
variable {z : xzs} {W : kW} {h : xH} {c s : mS} {n K m : Nat}
theorem jS_comes (J : jS K W c s n) (t : Nat) (w b a : Int32) : jS K W (mComes c t w b a) (mComes s t w b a) n := by
  obtain ⟨⟨JA, JT, JE, JB⟩, JC, JD⟩ := J
  exact ⟨⟨jA_of JA rfl rfl rfl rfl rfl rfl rfl rfl rfl rfl rfl rfl rfl rfl rfl rfl rfl rfl, JT, JE, jB_comes JB t w b a⟩, JC, JD⟩
theorem jS_ready (J : jS K W c s n) {t : Nat} (t1 : 1 ≤ t) (t2 : t < 4) (hK : K + 1 < 2 ^ 30) : jS (K + 1) W (kReady c t) (mReady s t) n := by
  obtain ⟨⟨JA, JT, JE, JB⟩, JC, JD⟩ := J
  exact ⟨⟨jA_of JA rfl rfl rfl rfl rfl rfl rfl rfl rfl rfl rfl rfl rfl rfl rfl rfl rfl rfl, JT, JE, jB_mono (jB_ready JB t1 t2 hK) (by omega) hK⟩, JC, JD⟩
theorem jS_16 (J : jS K W c s n) (t : Nat) (v : Int32) : jS K W (sS c 16 t v) (sS s 16 t v) n := by
  obtain ⟨⟨JA, JT, JE, JB⟩, JC, JD⟩ := J
  exact ⟨⟨jA_of JA rfl rfl rfl rfl rfl rfl rfl rfl rfl rfl rfl rfl rfl rfl rfl rfl rfl rfl, JT, JE, jB_16 JB t v⟩, JC, JD⟩
theorem jS_asks (J : jS K W c s n) {t v : Nat} (t1 : 1 ≤ t) (t2 : t < 4) (v1 : 1 ≤ v) (v2 : v < 4) : jS K W (kAsks c t v) (mAsks s t v) n := by
  obtain ⟨⟨JA, JT, JE, JB⟩, JC, JD⟩ := J
  exact ⟨⟨jA_of JA rfl rfl rfl rfl rfl rfl rfl rfl rfl rfl rfl rfl rfl rfl rfl rfl rfl rfl, JT, JE, jB_asks JB t1 t2 v1 v2⟩, JC, JD⟩
theorem jS_noteC (J : jS K W c s n) {t : Nat} {w b g : Int32} (hs : ¬ (s 15 t = 1 ∨ s 15 t = nI 2)) (hg : isN g (kC W + 1)) : jS K W (mNote c t w b g) s n := by
  obtain ⟨⟨JA, JT, JE, JB⟩, JC, JD⟩ := J
  exact ⟨⟨jA_of JA rfl rfl rfl rfl rfl rfl rfl rfl rfl rfl rfl rfl rfl rfl rfl rfl rfl rfl, JT, JE, jB_noteC JB hs hg⟩, JC, JD⟩
theorem jS_noteS (J : jS K W c s n) {t : Nat} {w b g : Int32} (hs : ¬ (s 15 t = 1 ∨ s 15 t = nI 2)) (hg : isN g (kC W + 1)) : jS K W c (mNote s t w b g) n := by
  obtain ⟨⟨JA, JT, JE, JB⟩, JC, JD⟩ := J
  exact ⟨⟨JA, JT, JE, jB_noteS JB hs hg⟩, JC, JD⟩
theorem jS_waits (J : jS K W c s n) {t o : Nat} {st : Int32} (t1 : 1 ≤ t) (t2 : t < 4) (hK : K + 2 < 2 ^ 30) (ho : o < kT W) (h52 : c 52 t = 0)
    (hst : (st = nI 5 ∧ c 1 o = nI 2) ∨ ((st = 1 ∨ st = nI 2 ∨ st = nI 4) ∧ c 1 o = 1))
    (hm : st = 1 ∨ st = nI 2 → c 24 t = s 24 t ∧ c 25 t = s 25 t ∧ c 26 t = s 26 t)
    (hi : st = nI 4 → kInR W c s t)
    (hn : st = 1 ∨ st = nI 2 → ∀ u, 1 ≤ u → u < 4 → s 15 u = nI 4 → ¬ s 22 u = nI o)
    (hn2 : st = nI 4 → ∀ u, 1 ≤ u → u < 4 → s 15 u = 1 ∨ s 15 u = nI 2 → ¬ s 22 u = nI o) : jS (K + 2) W (kWaits c t st o) (mWaits s t st (nI o)) n := by
  obtain ⟨⟨JA, JT, JE, JB⟩, JC, JD⟩ := J
  exact ⟨⟨jA_of JA rfl rfl rfl rfl rfl rfl rfl rfl rfl rfl rfl rfl rfl rfl rfl rfl rfl rfl, JT, JE, jB_waits JB t1 t2 hK JA.1.2.1 ho h52 hst hm hi hn hn2⟩, JC, JD⟩
theorem and7 {x : Int32} (hx : isN x 8) : x &&& nI 7 = x := by
  obtain ⟨h1, h2⟩ := hx
  rw [h1, pk_andN (k := 3) (by omega) (by decide), Nat.mod_eq_of_lt (by omega)]
theorem sim_del (J : jS K W c s n) (hC : kC W + 1 < 1200) {W' : kW} {u v g : Nat} (hg : c 26 u = nI g) (hg2 : g ≤ kC W) (hi : kInR W c s v) (X : kXt W W') (P : kDelP W c n u v W') : ∃ n', jS K W' (kDelS W c n u v) (mDel s (kC W) v (c 24 u) (c 25 u) g) n' ∧ kC W' ≤ kC W + 1 := by
  have J0 := J
  obtain ⟨⟨JA, JT, JE, JB⟩, JC, JD⟩ := J
  have je := JE
  obtain ⟨e1, e2, e3, e4, e5, e6, e8, e9, e10, e11, e12, e14, e13, e7⟩ := je
  have hT := JA.1.2.1
  have vg : vN (c 26 u) = g := by rw [hg, vN_nI (by omega)]
  obtain ⟨P1, P2, P3⟩ := P
  have hiff : kDelOk c u v ↔ mDelOk s v g := by
    unfold kDelOk mDelOk
    rw [vg, e12, e6, e14]
    rcases hi with ⟨h1, h2⟩ | ⟨o, a, o1, o2, o3, o4, o5, o6, o7⟩
    · rw [h1, h2]
      exact ⟨fun w => absurd rfl w.2.2.1, fun w => absurd w.2.2.1 (by decide)⟩
    · rw [o4, o5, o6, o7, vN_nI (by omega), vN_nI (by omega), vN_nI (by omega), show o + 1 - 1 = o by omega, show (8 * o + a % 8) / 8 = o by omega]
      exact ⟨fun w => ⟨w.1, w.2.1, nI_pos' (by omega), w.2.2.2⟩, fun w => ⟨w.1, w.2.1, nI_ne0 (by omega) (by omega), w.2.2.2⟩⟩
  unfold kDelS mDel
  by_cases k : kDelOk c u v
  · rw [if_pos k, if_pos (hiff.mp k)]
    obtain ⟨p2a, p2b⟩ := P2 k
    rcases hi with ⟨h1, h2⟩ | ⟨o, a, o1, o2, o3, o4, o5, o6, o7⟩
    · exact absurd h2 k.2.2.1
    · have eo : vN (c 56 v) - 1 = o := by rw [o4, vN_nI (by omega)]; rfl
      have ea : vN (c 27 v) = a := by rw [o5, vN_nI (by omega)]
      have k1 := k.1
      have k2 := k.2.1
      have k5 := k.2.2.2.2
      rw [vg] at k1 k2
      rw [eo, ea] at k5
      obtain ⟨⟨th, t1, t2, t3⟩, -, r9, -⟩ := JA.2.2.2.1 g k1 hg2
      have et : vN (c 8 g) = th := by rw [t1, vN_nI (by omega)]
      have hm : a % 8 < 8 := Nat.mod_lt _ (by decide)
      have D : kAdd1 W c n th (c 9 g) (c 10 g) (nI g) o (a % 8) W' (kHoS W c n u v) := by
        refine ⟨t2, o1, hm, o2, k5, P1, p2a, p2b, ?_⟩
        unfold kHoS
        rw [vg, et, and7 r9, eo, ea]
      have ht := JT.1 g k1 hg2 k2
      rw [et] at ht
      have J2 := jS_put J0 D X hC t3 ht r9 (isN_nI (by omega) (by omega)) (fun w => JD.1 g k1 hg2 (by rw [et]; exact w))
      have e41 : vN (s 41 v) = 8 * o + a % 8 := by rw [o7, vN_nI (by omega)]
      refine ⟨n + 1, ?_, by omega⟩
      have J3 := jS_comes J2 v (c 24 u) (c 25 u) (c 27 v)
      rw [e41, ← e8, ← e9, ← e10, t1, o6, ← o5]
      exact J3
  · rw [if_neg k, if_neg (fun w => k (hiff.mpr w)), P3 k]
    exact ⟨n, jS_comes J0 v (c 24 u) (c 25 u) (-1), Nat.le_succ _⟩
theorem le1_iff {o : Nat} (ho : o < 2 ^ 31) : nI o ≤ 1 ↔ o < 2 := by
  rw [show (1 : Int32) = nI 1 from rfl, nI_leI ho (by decide)]
  omega
/-- send, once the capability is found -/
theorem sim_sendC (J : jS K W c s n) (hC : kC W + 1 < 1200) (hK : K + 10 < 2 ^ 30) {t j g : Nat} {w r : Int32} (h0 : mNow s = t) (h00 : t ≠ 0) (j1 : 1 ≤ j) (j2 : j ≤ kC W) (hg : g ≤ kC W) {o : Option xR} (hcl : kDone z W h c o (kSendG c t j w (nI g) r) (kSendP W (mNote c t w (c 10 j) (nI g)) n t (vN (c 8 j)))) : kDone z W h c o (mSendC s (kC W) t j w g r) (fun W' c' => ∃ n', jS (K + 10) W' c' (mSendC s (kC W) t j w g r).2.2 n' ∧ kC W' ≤ kC W + 1) ∧ ((mSendC s (kC W) t j w g r).1 ≠ 0 → (mSendC s (kC W) t j w g r).2.2 = s) := by
  have J0 := J
  obtain ⟨⟨JA, JT, JE, JB⟩, JC, JD⟩ := J
  have je := JE
  obtain ⟨e1, e2, e3, e4, e5, e6, e8, e9, e10, e11, e12, e14, e13, e7⟩ := je
  have hT := JA.1.2.1
  have t1 : 1 ≤ t := Nat.pos_of_ne_zero h00
  have t2 : t < 4 := by rw [← h0]; exact mNow_lt s
  have h15 : s 15 t = 0 := by rw [← h0]; exact mNow_15 (by rw [h0]; exact h00)
  have h52 := J0.at52 t1 t2 h15
  obtain ⟨⟨th, g1, g2, g3⟩, -⟩ := JA.2.2.2.1 j j1 j2
  have et : vN (c 8 j) = th := by rw [g1, vN_nI (by omega)]
  have s8 : s 8 j = nI th := by rw [← e8]; exact g1
  have ets : vN (s 8 j) = th := by rw [← e8]; exact et
  have nst : ¬ (s 15 t = 1 ∨ s 15 t = nI 2) := by rw [h15]; decide
  have hgN : isN (nI g) (kC W + 1) := isN_nI (by omega) (by omega)
  have J1 := jS_noteC J0 (w := w) (b := c 10 j) nst hgN
  rw [et] at hcl
  by_cases k1 : s 1 th = 1
  · by_cases k2 : s 9 j &&& r = r
    · by_cases k3 : th < 2
      · have eq : mSendC s (kC W) t j w g r = (nI 4, 0, s) := by
          unfold mSendC
          rw [ets, if_neg (fun w => w k1), if_neg (fun w => w k2), s8, if_pos ((le1_iff (by omega)).mpr k3)]
        have eqc : kSendG c t j w (nI g) r = (nI 4, 0, c) := by
          unfold kSendG
          rw [et, e1, if_neg (fun w => w k1), e9, if_neg (fun w => w k2), if_pos k3]
        rw [eq]
        exact ⟨kDone_mp (kDone_q (by rw [eqc]) (by rw [eqc]) hcl) (fun hc => absurd hc n40), fun _ => rfl⟩
      · have kc : c 1 th = 1 := by rw [e1]; exact k1
        have erc : kRecv (mNote c t w (c 10 j) (nI g)) th = mWaiting s (nI th) (nI 4) (nI 4) := jB_recv J1.1.2.2.2 hT g2 kc
        have vl := mWaiting_lt s (nI th) (nI 4) (nI 4)
        by_cases k4 : mWaiting s (nI th) (nI 4) (nI 4) = 0
        · have eq : mSendC s (kC W) t j w g r = (0, 1, mWaits (mNote s t w (s 10 j) (nI g)) t 1 (nI th)) := by
            unfold mSendC
            rw [ets, if_neg (fun w => w k1), if_neg (fun w => w k2), s8, if_neg (fun w => k3 ((le1_iff (by omega)).mp w)), if_pos k4]
          have eqc : kSendG c t j w (nI g) r = (0, 1, c) := by
            unfold kSendG
            rw [et, e1, if_neg (fun w => w k1), e9, if_neg (fun w => w k2), if_neg k3, erc, if_pos k4]
          rw [eq]
          refine ⟨kDone_mp (kDone_q (by rw [eqc]) (by rw [eqc]) hcl) (fun _ W' c' X P => ?_), fun w => absurd rfl w⟩
          rcases P with ⟨-, rfl, rfl⟩ | ⟨q, -⟩
          · have J2 := jS_noteS J1 (w := w) (b := s 10 j) nst hgN
            refine ⟨n, jS_mono (jS_waits J2 (st := 1) t1 t2 (by omega) g2 h52 (Or.inr ⟨Or.inl rfl, kc⟩) (fun _ => ?_) (fun w => absurd w (by decide)) (fun _ u u1 u2 a1 a2 => ?_) (fun w => absurd w (by decide))) (by omega) hK, Nat.le_succ _⟩
            · rw [e10]
              simp only [mNote, sS_app, Nat.reduceEqDiff, false_and, and_self, ↓reduceIte]
            · exact mWaiting_hit u1 u2 ⟨Or.inl a1, a2⟩ k4
          · rw [erc] at q
            exact absurd k4 q
        · have eq : mSendC s (kC W) t j w g r = (0, 0, mReady (mDel s (kC W) (mWaiting s (nI th) (nI 4) (nI 4)) w (s 10 j) g) (mWaiting s (nI th) (nI 4) (nI 4))) := by
            unfold mSendC
            rw [ets, if_neg (fun w => w k1), if_neg (fun w => w k2), s8, if_neg (fun w => k3 ((le1_iff (by omega)).mp w)), if_neg k4]
          have eqc : kSendG c t j w (nI g) r = (0, 0, c) := by
            unfold kSendG
            rw [et, e1, if_neg (fun w => w k1), e9, if_neg (fun w => w k2), if_neg k3, erc, if_neg k4]
          rw [eq]
          refine ⟨kDone_mp (kDone_q (by rw [eqc]) (by rw [eqc]) hcl) (fun _ W' c' X P => ?_), fun w => absurd rfl w⟩
          rcases P with ⟨q, -⟩ | ⟨-, rfl, P⟩
          · rw [erc] at q
            exact absurd q k4
          · rw [erc] at P ⊢
            rcases mWaiting_or s (nI th) (nI 4) (nI 4) with q | ⟨v1, v2, v3⟩
            · exact absurd q k4
            have hv4 : s 15 (mWaiting s (nI th) (nI 4) (nI 4)) = nI 4 := v2.elim id id
            obtain ⟨n', J3, hc3⟩ := sim_del J1 hC (g := g) mNote_26 hg (J1.1.2.2.2.2.2.2.2.2.1 _ v1 vl hv4) X P
            have x24 : mNote c t w (c 10 j) (nI g) 24 t = w := by
              simp only [mNote, sS_app, Nat.reduceEqDiff, false_and, and_self, ↓reduceIte]
            have x25 : mNote c t w (c 10 j) (nI g) 25 t = s 10 j := by
              simp only [mNote, sS_app, Nat.reduceEqDiff, false_and, and_self, ↓reduceIte, e10]
            rw [x24, x25] at J3
            exact ⟨n', jS_mono (jS_ready J3 v1 vl (by omega)) (by omega) hK, hc3⟩
    · have eq : mSendC s (kC W) t j w g r = (nI 3, 0, s) := by
        unfold mSendC
        rw [ets, if_neg (fun w => w k1), if_pos k2]
      have eqc : kSendG c t j w (nI g) r = (nI 3, 0, c) := by
        unfold kSendG
        rw [et, e1, if_neg (fun w => w k1), e9, if_pos k2]
      rw [eq]
      exact ⟨kDone_mp (kDone_q (by rw [eqc]) (by rw [eqc]) hcl) (fun hc => absurd hc n30), fun _ => rfl⟩
  · have eq : mSendC s (kC W) t j w g r = (1, 0, s) := by
      unfold mSendC
      rw [ets, if_pos k1]
    have eqc : kSendG c t j w (nI g) r = (1, 0, c) := by
      unfold kSendG
      rw [et, e1, if_pos k1]
    rw [eq]
    exact ⟨kDone_mp (kDone_q (by rw [eqc]) (by rw [eqc]) hcl) (fun hc => absurd hc n10), fun _ => rfl⟩
theorem rIn_or {x : Int32} (h : rIn x (-1) (nI 71)) : x = -1 ∨ rAd x := by
  by_cases e : x < 0
  · refine Or.inl ?_
    have h1 : ¬ x < -1 := fun w => h (Or.inl w)
    have a1 := Int32.lt_iff_toInt_lt.mp e
    have a2 : ¬ x.toInt < (-1 : Int32).toInt := fun w => h1 (Int32.lt_iff_toInt_lt.mpr w)
    have z0 : (0 : Int32).toInt = 0 := by decide
    have z1 : (-1 : Int32).toInt = -1 := by decide
    exact Int32.toInt_inj.mp (by omega)
  · refine Or.inr ?_
    rintro (w | w)
    · exact e w
    · exact h (Or.inr w)
theorem sim_send (J : jS K W c s n) (ok : kOk W h) (hz : z.1 < h.1) (hC : kC W + 1 < 1200) (hK : K + 10 < 2 ^ 30) (p1 p2 p3 : Int32) : kSim z W h K c s n m (f_K_send z) (f_M_send z) [.int p1, .int p2, .int p3] := by
  have Kp := J.p ok hz hC
  have hnow := J.now
  by_cases hr : mNow s = 0 ∨ ¬ (rAd p1 ∧ rIn p3 (-1) (nI 71))
  · exact kSim_bad J (fun hR okR => t_M_send_bad okR hr) (fun P => t_K_send_bad Kp (by rw [hnow]; exact hr) P)
  have h0 : mNow s ≠ 0 := fun w => hr (Or.inl w)
  have hn : rAd p1 ∧ rIn p3 (-1) (nI 71) := Classical.byContradiction fun w => hr (Or.inr w)
  obtain ⟨a, ha, rfl⟩ := w_addr hn.1
  have J0 := J
  obtain ⟨⟨JA, JT, JE, JB⟩, JC, JD⟩ := J
  have ec := JE.cap (mNow s) a
  have hS := JB.mws (by omega)
  have hwf := JA.mwf JE
  have hm13 := JE.2.2.2.2.2.2.2.2.2.2.2.2.1
  have hI := JB.ia
  have t1 := mNow_pos h0
  have t2 := mNow_lt s
  rcases rIn_or hn.2 with rfl | h3
  · have hcl := t_K_send0 (z := z) (w := p2) Kp hI (by rw [hnow]; exact h0) ha
    rw [hnow, ec] at hcl
    by_cases k0 : mCapa s (mNow s) a = 0
    · have eq : mSend0 s (kC W) (mNow s) a p2 = (nI 2, 0, s) := if_pos k0
      have eqc : kSend0 c (mNow s) a p2 = (nI 2, 0, c) := by unfold kSend0; rw [ec, if_pos k0]
      refine ⟨mSend0 s (kC W) (mNow s) a p2, fun hR okR => t_M_send0 okR hwf hS hm13 hC h0 ha, ?_, fun _ => by rw [eq], by unfold mSend0 mSendC; (repeat' split) <;> first | exact i50 | exact i51 | exact i52 | exact i53 | exact i54⟩
      rw [eq]
      exact kDone_mp (kDone_q (by rw [eqc]) (by rw [eqc]) hcl) (fun hc => absurd hc n20)
    · obtain ⟨l1, l2, l3, l4, -⟩ := J0.live t1 t2 ha (by rw [ec]; exact k0)
      rw [ec] at l1 l2
      have eq : mSend0 s (kC W) (mNow s) a p2 = mSendC s (kC W) (mNow s) (vN (mCapa s (mNow s) a)) p2 0 (nI 2) := if_neg k0
      have eqc : kSend0 c (mNow s) a p2 = kSendG c (mNow s) (vN (mCapa s (mNow s) a)) p2 0 (nI 2) := by unfold kSend0; rw [ec, if_neg k0]
      rw [eqc] at hcl
      obtain ⟨q1, q2⟩ := sim_sendC (g := 0) J0 hC hK rfl h0 l1 l2 (Nat.zero_le _) hcl
      refine ⟨mSend0 s (kC W) (mNow s) a p2, fun hR okR => t_M_send0 okR hwf hS hm13 hC h0 ha, ?_, ?_, by unfold mSend0 mSendC; (repeat' split) <;> first | exact i50 | exact i51 | exact i52 | exact i53 | exact i54⟩
      · rw [eq]; exact q1
      · rw [eq]; exact q2
  · obtain ⟨b, hb, rfl⟩ := w_addr h3
    have eb := JE.cap (mNow s) b
    have hcl := t_K_send1 (z := z) (w := p2) Kp hI (by rw [hnow]; exact h0) ha hb
    rw [hnow, ec, eb] at hcl
    by_cases k0 : mCapa s (mNow s) a = 0 ∨ mCapa s (mNow s) b = 0
    · have eq : mSend1 s (kC W) (mNow s) a b p2 = (nI 2, 0, s) := if_pos k0
      have eqc : kSend1 c (mNow s) a b p2 = (nI 2, 0, c) := by unfold kSend1; rw [ec, eb, if_pos k0]
      refine ⟨mSend1 s (kC W) (mNow s) a b p2, fun hR okR => t_M_send1 okR hwf hS hm13 hC h0 ha hb, ?_, fun _ => by rw [eq], by unfold mSend1 mSendC; (repeat' split) <;> first | exact i50 | exact i51 | exact i52 | exact i53 | exact i54⟩
      rw [eq]
      exact kDone_mp (kDone_q (by rw [eqc]) (by rw [eqc]) hcl) (fun hc => absurd hc n20)
    · have ka : ¬ mCapa s (mNow s) a = 0 := fun w => k0 (Or.inl w)
      have kb : ¬ mCapa s (mNow s) b = 0 := fun w => k0 (Or.inr w)
      obtain ⟨l1, l2, l3, l4, -⟩ := J0.live t1 t2 ha (by rw [ec]; exact ka)
      obtain ⟨r1, r2, r3, r4, -⟩ := J0.live t1 t2 hb (by rw [eb]; exact kb)
      rw [ec] at l1 l2
      rw [eb] at r2 r3
      have eq : mSend1 s (kC W) (mNow s) a b p2 = mSendC s (kC W) (mNow s) (vN (mCapa s (mNow s) a)) p2 (vN (mCapa s (mNow s) b)) (nI 6) := if_neg k0
      have eqc : kSend1 c (mNow s) a b p2 = kSendG c (mNow s) (vN (mCapa s (mNow s) a)) p2 (mCapa s (mNow s) b) (nI 6) := by unfold kSend1; rw [ec, eb, if_neg k0]
      rw [eqc, r3] at hcl
      obtain ⟨q1, q2⟩ := sim_sendC (g := vN (mCapa s (mNow s) b)) J0 hC hK rfl h0 l1 l2 r2 hcl
      refine ⟨mSend1 s (kC W) (mNow s) a b p2, fun hR okR => t_M_send1 okR hwf hS hm13 hC h0 ha hb, ?_, ?_, by unfold mSend1 mSendC; (repeat' split) <;> first | exact i50 | exact i51 | exact i52 | exact i53 | exact i54⟩
      · rw [eq]; exact q1
      · rw [eq]; exact q2
end LO
