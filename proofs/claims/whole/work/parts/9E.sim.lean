/-! Alike: receive. -/
section LP
variable {z : xzs} {W : kW} {h : xH} {c s : mS} {n K m : Nat}
theorem jS_said (J : jS K W c s n) {t : Nat} {T i i' sl : Int32} (hs : ¬ s 15 t = nI 4) (hT : vN T ≤ kT W) (hl : 0 ≤ i' → isN sl 400) : jS K W (kSaid c t T i) (mSaid s t i' sl) n := by
  obtain ⟨⟨JA, JT, JE, JB⟩, JC, JD⟩ := J
  exact ⟨⟨jA_of JA rfl rfl rfl rfl rfl rfl rfl rfl rfl rfl rfl rfl rfl rfl rfl rfl rfl rfl, JT, JE, jB_said JB hs hT hl⟩, JC, JD⟩
theorem kInR_W {W' : kW} {v : Nat} (hT : kT W' = kT W) (h : kInR W c s v) : kInR W' c s v := by
  unfold kInR at h ⊢
  rw [hT]
  exact h
theorem mDel_15 {N to u g : Nat} {w b : Int32} : mDel s N to w b g 15 u = s 15 u := by
  unfold mDel
  split
  · simp only [mComes, mPutC, sS_app, Nat.reduceEqDiff, false_and, ↓reduceIte]
  · simp only [mComes, sS_app, Nat.reduceEqDiff, false_and, ↓reduceIte]
/-- receive, once the capability and the table are found -/
theorem sim_recC (J : jS K W c s n) (hC : kC W + 1 < 1200) (hK : K + 10 < 2 ^ 30) {t j : Nat} {T i i' sl : Int32} (h0 : mNow s = t) (h00 : t ≠ 0) (j1 : 1 ≤ j) (j2 : j ≤ kC W) (hT0 : vN T ≤ kT W) (hl : 0 ≤ i' → isN sl 400) (hin : kInR W (kSaid c t T i) (mSaid s t i' sl) t) {o : Option xR} (hcl : kDone z W h c o (kRecG c t j T i) (kRecP W (kSaid c t T i) n t (vN (c 8 j)))) : kDone z W h c o (mRecC s (kC W) t j i' sl) (fun W' c' => ∃ n', jS (K + 10) W' c' (mRecC s (kC W) t j i' sl).2.2 n' ∧ kC W' ≤ kC W + 1) ∧ ((mRecC s (kC W) t j i' sl).1 ≠ 0 → (mRecC s (kC W) t j i' sl).2.2 = s) := by
  have J0 := J
  obtain ⟨⟨JA, JT, JE, JB⟩, JC, JD⟩ := J
  have je := JE
  obtain ⟨e1, e2, e3, e4, e5, e6, e8, e9, e10, e11, e12, e14, e13, e7⟩ := je
  have hT := JA.1.2.1
  have t1 : 1 ≤ t := Nat.pos_of_ne_zero h00
  have t2 : t < 4 := by rw [← h0]; exact mNow_lt s
  have h15 : s 15 t = 0 := by rw [← h0]; exact mNow_15 (by rw [h0]; exact h00)
  have h52 := J0.at52 t1 t2 h15
  obtain ⟨⟨th, g1, g2, g3⟩, -⟩ := JA.2.2.2.1 j j1 j2
  have et : vN (c 8 j) = th := by rw [g1, vN_nI (by omega)]
  have s8 : s 8 j = nI th := by rw [← e8]; exact g1
  have ets : vN (s 8 j) = th := by rw [← e8]; exact et
  have J1 := jS_said J0 (T := T) (i := i) (i' := i') (sl := sl) (t := t) (by rw [h15]; decide) hT0 hl
  rw [et] at hcl
  by_cases k1 : s 1 th = 1
  · by_cases k2 : s 9 j &&& 1 = 1
    · by_cases k3 : th < 2
      · have eq : mRecC s (kC W) t j i' sl = (nI 4, 0, s) := by
          unfold mRecC
          rw [ets, if_neg (fun w => w k1), if_neg (fun w => w k2), s8, if_pos ((le1_iff (by omega)).mpr k3)]
        have eqc : kRecG c t j T i = (nI 4, 0, c) := by
          unfold kRecG
          rw [et, e1, if_neg (fun w => w k1), e9, if_neg (fun w => w k2), if_pos k3]
        rw [eq]
        exact ⟨kDone_mp (kDone_q (by rw [eqc]) (by rw [eqc]) hcl) (fun hc => absurd hc n40), fun _ => rfl⟩
      · have kc : c 1 th = 1 := by rw [e1]; exact k1
        have esd : kSend (kSaid c t T i) th = mWaiting (mSaid s t i' sl) (nI th) 1 (nI 2) := jB_send J1.1.2.2.2 hT g2 kc
        have vl := mWaiting_lt (mSaid s t i' sl) (nI th) 1 (nI 2)
        have eE : mRecC s (kC W) t j i' sl = mRecE (mSaid s t i' sl) (kC W) t j := by
          unfold mRecC
          rw [ets, if_neg (fun w => w k1), if_neg (fun w => w k2), s8, if_neg (fun w => k3 ((le1_iff (by omega)).mp w))]
        have s8' : mSaid s t i' sl 8 j = nI th := s8
        by_cases k4 : mWaiting (mSaid s t i' sl) (nI th) 1 (nI 2) = 0
        · have eq : mRecC s (kC W) t j i' sl = (0, 1, mWaits (mSaid s t i' sl) t (nI 4) (nI th)) := by
            rw [eE]
            unfold mRecE
            rw [s8', if_pos k4]
          have eqc : kRecG c t j T i = (0, 1, c) := by
            unfold kRecG
            rw [et, e1, if_neg (fun w => w k1), e9, if_neg (fun w => w k2), if_neg k3, esd, if_pos k4]
          rw [eq]
          refine ⟨kDone_mp (kDone_q (by rw [eqc]) (by rw [eqc]) hcl) (fun _ W' c' X P => ?_), fun w => absurd rfl w⟩
          rcases P with ⟨-, rfl, rfl⟩ | ⟨q, -⟩
          · refine ⟨n, jS_mono (jS_waits J1 (st := nI 4) t1 t2 (by omega) g2 h52 (Or.inr ⟨Or.inr (Or.inr rfl), kc⟩) (fun w => absurd w (by decide)) (fun _ => hin) (fun w => absurd w (by decide)) (fun _ u u1 u2 a1 a2 => mWaiting_hit u1 u2 ⟨a1, a2⟩ k4)) (by omega) hK, Nat.le_succ _⟩
          · rw [esd] at q
            exact absurd k4 q
        · generalize hf : mWaiting (mSaid s t i' sl) (nI th) 1 (nI 2) = f at *
          have eq : mRecC s (kC W) t j i' sl = (0, 0, mTake (mSaid s t i' sl) (kC W) t f) := by
            rw [eE]
            unfold mRecE
            rw [s8', hf, if_neg k4]
          have eqc : kRecG c t j T i = (0, 0, c) := by
            unfold kRecG
            rw [et, e1, if_neg (fun w => w k1), e9, if_neg (fun w => w k2), if_neg k3, esd, if_neg k4]
          rw [eq]
          refine ⟨kDone_mp (kDone_q (by rw [eqc]) (by rw [eqc]) hcl) (fun _ W' c' X P => ?_), fun w => absurd rfl w⟩
          rcases P with ⟨q, -⟩ | ⟨-, rfl, P⟩
          · rw [esd] at q
            exact absurd q k4
          · rw [esd] at P ⊢
            rcases mWaiting_or (mSaid s t i' sl) (nI th) 1 (nI 2) with q | ⟨v1, v2, v3⟩
            · rw [hf] at q
              exact absurd q k4
            rw [hf] at v1 v2
            obtain ⟨m24, m25, m26⟩ := J1.1.2.2.2.2.2.2.2.1 f v1 vl v2
            have hgN := (J1.1.2.2.2.2.2.2.2.2.2.2.2.1 f vl).2.1
            obtain ⟨n', J3, hc3⟩ := sim_del J1 hC (u := f) (v := t) (g := vN (mSaid s t i' sl 26 f)) (by rw [m26]; exact hgN.1) (by have := hgN.2; omega) hin X P
            rw [m24, m25] at J3
            unfold kTake mTake
            have c15 : kSaid c t T i 15 f = mSaid s t i' sl 15 f := by rw [J1.1.2.2.2.1.1]
            rw [c15]
            by_cases k5 : mSaid s t i' sl 15 f = nI 2
            · rw [if_pos k5, if_pos k5]
              exact ⟨n', jS_mono (jS_asks J3 v1 vl t1 t2) (by omega) hK, hc3⟩
            · rw [if_neg k5, if_neg k5]
              exact ⟨n', jS_mono (jS_ready (jS_16 J3 f 0) v1 vl (by omega)) (by omega) hK, hc3⟩
    · have eq : mRecC s (kC W) t j i' sl = (nI 3, 0, s) := by
        unfold mRecC
        rw [ets, if_neg (fun w => w k1), if_pos k2]
      have eqc : kRecG c t j T i = (nI 3, 0, c) := by
        unfold kRecG
        rw [et, e1, if_neg (fun w => w k1), e9, if_pos k2]
      rw [eq]
      exact ⟨kDone_mp (kDone_q (by rw [eqc]) (by rw [eqc]) hcl) (fun hc => absurd hc n30), fun _ => rfl⟩
  · have eq : mRecC s (kC W) t j i' sl = (1, 0, s) := by
      unfold mRecC
      rw [ets, if_pos k1]
    have eqc : kRecG c t j T i = (1, 0, c) := by
      unfold kRecG
      rw [et, e1, if_pos k1]
    rw [eq]
    exact ⟨kDone_mp (kDone_q (by rw [eqc]) (by rw [eqc]) hcl) (fun hc => absurd hc n10), fun _ => rfl⟩
theorem sim_receive (J : jS K W c s n) (ok : kOk W h) (hz : z.1 < h.1) (hC : kC W + 1 < 1200) (hK : K + 10 < 2 ^ 30) (p1 p3 : Int32) : kSim z W h K c s n m (f_K_receive z) (f_M_receive z) [.int p1, .int p3] := by
  have Kp := J.p ok hz hC
  have hnow := J.now
  by_cases hr : mNow s = 0 ∨ ¬ (rAd p1 ∧ rIn p3 (-1) (nI 71))
  · exact kSim_bad J (fun hR okR => t_M_receive_bad okR hr) (fun P => t_K_receive_bad Kp (by rw [hnow]; exact hr) P)
  have h0 : mNow s ≠ 0 := fun w => hr (Or.inl w)
  have hn : rAd p1 ∧ rIn p3 (-1) (nI 71) := Classical.byContradiction fun w => hr (Or.inr w)
  obtain ⟨a, ha, rfl⟩ := w_addr hn.1
  have J0 := J
  obtain ⟨⟨JA, JT, JE, JB⟩, JC, JD⟩ := J
  have ec := JE.cap (mNow s) a
  have hS := JB.mws (by omega)
  have hwf := JA.mwf JE
  have hm13 := JE.2.2.2.2.2.2.2.2.2.2.2.2.1
  have hG := JB.ga
  have t1 := mNow_pos h0
  have t2 := mNow_lt s
  have hT := JA.1.2.1
  rcases rIn_or hn.2 with rfl | h3
  · have hcl := t_K_receive0 (z := z) Kp hG (by rw [hnow]; exact h0) ha
    rw [hnow, ec] at hcl
    by_cases k0 : mCapa s (mNow s) a = 0
    · have eq : mRec0 s (kC W) (mNow s) a = (nI 2, 0, s) := if_pos k0
      have eqc : kRec0 c (mNow s) a = (nI 2, 0, c) := by unfold kRec0; rw [ec, if_pos k0]
      refine ⟨mRec0 s (kC W) (mNow s) a, fun hR okR => t_M_receive0 okR hwf hS hm13 hC h0 ha, ?_, fun _ => by rw [eq], by unfold mRec0 mRecC mRecE; (repeat' split) <;> first | exact i50 | exact i51 | exact i52 | exact i53 | exact i54⟩
      rw [eq]
      exact kDone_mp (kDone_q (by rw [eqc]) (by rw [eqc]) hcl) (fun hc => absurd hc n20)
    · obtain ⟨l1, l2, l3, l4, -⟩ := J0.live t1 t2 ha (by rw [ec]; exact k0)
      rw [ec] at l1 l2
      have eq : mRec0 s (kC W) (mNow s) a = mRecC s (kC W) (mNow s) (vN (mCapa s (mNow s) a)) (-1) (-1) := if_neg k0
      have eqc : kRec0 c (mNow s) a = kRecG c (mNow s) (vN (mCapa s (mNow s) a)) 0 (-1) := by unfold kRec0; rw [ec, if_neg k0]
      rw [eqc] at hcl
      have hin : kInR W (kSaid c (mNow s) 0 (-1)) (mSaid s (mNow s) (-1) (-1)) (mNow s) := Or.inl ⟨by simp only [mSaid, sS_app, Nat.reduceEqDiff, false_and, and_self, ↓reduceIte], by simp only [kSaid, sS_app, Nat.reduceEqDiff, false_and, and_self, ↓reduceIte]⟩
      obtain ⟨q1, q2⟩ := sim_recC J0 hC hK rfl h0 l1 l2 (Nat.zero_le _) (fun w => absurd w (by decide)) hin hcl
      refine ⟨mRec0 s (kC W) (mNow s) a, fun hR okR => t_M_receive0 okR hwf hS hm13 hC h0 ha, ?_, ?_, by unfold mRec0 mRecC mRecE; (repeat' split) <;> first | exact i50 | exact i51 | exact i52 | exact i53 | exact i54⟩
      · rw [eq]; exact q1
      · rw [eq]; exact q2
  · obtain ⟨b, hb, rfl⟩ := w_addr h3
    have eb := JE.tab (mNow s) b
    have hcl := t_K_receive1 (z := z) Kp hG (by rw [hnow]; exact h0) ha hb
    rw [hnow, ec, eb] at hcl
    by_cases k0 : mCapa s (mNow s) a = 0
    · have eq : mRec1 s (kC W) (mNow s) a b = (nI 2, 0, s) := if_pos k0
      have eqc : kRec1 c (mNow s) a b = (nI 2, 0, c) := by unfold kRec1; rw [ec, if_pos k0]
      refine ⟨mRec1 s (kC W) (mNow s) a b, fun hR okR => t_M_receive1 okR hwf hS hm13 hC h0 ha hb, ?_, fun _ => by rw [eq], by unfold mRec1 mRecC mRecE; (repeat' split) <;> first | exact i50 | exact i51 | exact i52 | exact i53 | exact i54⟩
      rw [eq]
      exact kDone_mp (kDone_q (by rw [eqc]) (by rw [eqc]) hcl) (fun hc => absurd hc n20)
    · obtain ⟨l1, l2, l3, l4, -⟩ := J0.live t1 t2 ha (by rw [ec]; exact k0)
      rw [ec] at l1 l2
      cases e1 : kTab s (mNow s) b with
      | none =>
        have hpl : mPlace s (mNow s) b = none := by rw [mPlace_tab, e1]; rfl
        have eq : mRec1 s (kC W) (mNow s) a b = (nI 2, 0, s) := by unfold mRec1; rw [if_neg k0, hpl]
        have eqc : kRec1 c (mNow s) a b = (nI 2, 0, c) := by unfold kRec1; rw [ec, if_neg k0, eb, e1]
        refine ⟨mRec1 s (kC W) (mNow s) a b, fun hR okR => t_M_receive1 okR hwf hS hm13 hC h0 ha hb, ?_, fun _ => by rw [eq], by unfold mRec1 mRecC mRecE; (repeat' split) <;> first | exact i50 | exact i51 | exact i52 | exact i53 | exact i54⟩
        rw [eq]
        exact kDone_mp (kDone_q (by rw [eqc]) (by rw [eqc]) hcl) (fun hc => absurd hc n20)
      | some o' =>
        obtain ⟨o1, o2⟩ := kTab_ok JA.wf t1 t2 hb (by rw [eb]; exact e1)
        have hpl : mPlace s (mNow s) b = some (8 * o' + b % 8) := by rw [mPlace_tab, e1]; rfl
        have eq : mRec1 s (kC W) (mNow s) a b = mRecC s (kC W) (mNow s) (vN (mCapa s (mNow s) a)) (nI b) (nI (8 * o' + b % 8)) := by unfold mRec1; rw [if_neg k0, hpl]
        have eqc : kRec1 c (mNow s) a b = kRecG c (mNow s) (vN (mCapa s (mNow s) a)) (nI (o' + 1)) (nI b) := by unfold kRec1; rw [ec, if_neg k0, eb, e1]
        have hcl2 := kDone_mp (P' := kRecP W (kSaid c (mNow s) (nI (o' + 1)) (nI b)) n (mNow s) (vN (c 8 (vN (mCapa s (mNow s) a))))) hcl (fun _ W' c' X P => by
          obtain ⟨y, y1, -, -, y2⟩ := P
          rw [e1] at y1
          cases y1
          exact y2)
        rw [eqc] at hcl2
        have hin : kInR W (kSaid c (mNow s) (nI (o' + 1)) (nI b)) (mSaid s (mNow s) (nI b) (nI (8 * o' + b % 8))) (mNow s) := Or.inr ⟨o', b, o1, o2, hb, by simp only [kSaid, sS_app, Nat.reduceEqDiff, false_and, and_self, ↓reduceIte], by simp only [kSaid, sS_app, Nat.reduceEqDiff, false_and, and_self, ↓reduceIte], by simp only [mSaid, sS_app, Nat.reduceEqDiff, false_and, and_self, ↓reduceIte], by simp only [mSaid, sS_app, Nat.reduceEqDiff, false_and, and_self, ↓reduceIte]⟩
        obtain ⟨q1, q2⟩ := sim_recC J0 hC hK rfl h0 l1 l2 (by rw [vN_nI (by omega)]; omega) (fun _ => isN_nI (by omega) (by omega)) hin hcl2
        refine ⟨mRec1 s (kC W) (mNow s) a b, fun hR okR => t_M_receive1 okR hwf hS hm13 hC h0 ha hb, ?_, ?_, by unfold mRec1 mRecC mRecE; (repeat' split) <;> first | exact i50 | exact i51 | exact i52 | exact i53 | exact i54⟩
        · rw [eq]; exact q1
        · rw [eq]; exact q2
end LP
