/-! Alike: call. -/
section LR
variable {z : xzs} {W : kW} {h : xH} {c s : mS} {n K m : Nat}
theorem asks_ready {t v : Nat} (htv : t ≠ v) : mAsks (mReady s v) t v = mReady (mAsks s t v) v := by
  funext f u
  by_cases e : f = 15
  · subst e
    rw [mAsk_15, mRdy_15, mRdy_15, mAsk_15]
    by_cases q : u = t
    · rw [if_pos q, if_neg (fun w => htv (by rw [← q, w])), if_pos q]
    · rw [if_neg q]
      by_cases q2 : u = v
      · rw [if_pos q2, if_pos q2]
      · rw [if_neg q2, if_neg q2, if_neg q]
  · simp only [mAsks, mReady, sS_app, e, Nat.reduceEqDiff, false_and, ↓reduceIte]
    by_cases e1 : f = 30
    · subst e1
      simp only [Nat.reduceEqDiff, false_and, true_and, ↓reduceIte]
    · simp only [e1, false_and, ↓reduceIte]
      by_cases e2 : f = 29
      · subst e2
        simp only [Nat.reduceEqDiff, false_and, true_and, ↓reduceIte]
      · simp only [e2, false_and, ↓reduceIte]
theorem sim_call (J : jS K W c s n) (ok : kOk W h) (hz : z.1 < h.1) (hC : kC W + 1 < 1200) (hK : K + 10 < 2 ^ 30) (p1 w : Int32) : kSim z W h K c s n m (f_K_call z) (f_M_call z) [.int p1, .int w] := by
  have Kp := J.p ok hz hC
  have hnow := J.now
  by_cases hr : mNow s = 0 ∨ ¬ rAd p1
  · exact kSim_bad J (fun hR okR => t_M_call_bad okR hr) (fun P => t_K_call_bad Kp (by rw [hnow]; exact hr) P)
  have h0 : mNow s ≠ 0 := fun w => hr (Or.inl w)
  obtain ⟨a, ha, rfl⟩ := w_addr (x := p1) (Classical.byContradiction fun w => hr (Or.inr w))
  have t1 := mNow_pos h0
  have t2 := mNow_lt s
  have h15 := mNow_15 h0
  have h52 := J.at52 t1 t2 h15
  have J0 := J
  obtain ⟨⟨JA, JT, JE, JB⟩, JC, JD⟩ := J
  have hcl := t_K_call (z := z) (w := w) Kp JB.ia (by rw [hnow]; exact h0) ha
  rw [hnow] at hcl
  have je := JE
  obtain ⟨e1, e2, e3, e4, e5, e6, e8, e9, e10, e11, e12, e14, e13, e7⟩ := je
  have ec := JE.cap (mNow s) a
  have hT := JA.1.2.1
  have hS := JB.mws (by omega)
  rw [ec] at hcl
  generalize ht : mNow s = t at *
  by_cases k0 : mCapa s t a = 0
  · have eq : mCallG s (kC W) t a w = (nI 2, 0, s) := if_pos k0
    have eqc : kCallG c t a w = (nI 2, 0, c) := by unfold kCallG; rw [ec, if_pos k0]
    refine ⟨mCallG s (kC W) t a w, fun hR okR => t_M_call okR (JA.mwf JE) hS JC.mwb e13 hC ht h0 ha (fun q => ?_), ?_, fun _ => by rw [eq], by unfold mCallG mCallE; (repeat' split) <;> first | exact i50 | exact i51 | exact i52 | exact i53 | exact i54⟩
    · rw [k0] at q ⊢
      have v0 : vN (0 : Int32) = 0 := rfl
      rw [v0, ← e8, (JA.2.2.2.2.1 0 (Or.inl rfl)).1] at q
      exact absurd q (by decide)
    · rw [eq]
      exact kDone_mp (kDone_q (by rw [eqc]) (by rw [eqc]) hcl) (fun hc => absurd hc n20)
  obtain ⟨l1, l2, l3, l4, -⟩ := J0.live t1 t2 ha (by rw [ec]; exact k0)
  rw [ec] at l1 l2 l3 l4
  generalize hj : vN (mCapa s t a) = j at *
  obtain ⟨⟨th, g1, g2, g3⟩, -⟩ := JA.2.2.2.1 j l1 l2
  have et : vN (c 8 j) = th := by rw [g1, vN_nI (by omega)]
  have s8 : s 8 j = nI th := by rw [← e8]; exact g1
  have ets : vN (s 8 j) = th := by rw [← e8]; exact et
  have hM : ∀ hR, mOk hR m → mDone z hR m (f_M_call z [.ref m, .int (nI a), .int w] (mPut hR m s)) (mCallG s (kC W) t a w) := fun hR okR => t_M_call okR (JA.mwf JE) hS JC.mwb e13 hC ht h0 ha (fun q => by
    rw [hj, s8] at q
    have := (nI_eq (a := th) (b := 1) (by omega) (by decide)).mp q
    rw [hj, ← e10]
    exact (JD.1 j l1 l2 (by rw [et]; omega)).1)
  by_cases k1 : s 1 th = 1
  · by_cases k2 : s 9 j &&& nI 2 = nI 2
    · by_cases k3 : th < 2
      · -- a server
        obtain ⟨hb4, hb0⟩ := JD.1 j l1 l2 (by rw [et]; exact k3)
        have eqc : kCallG c t a w = (0, nI 2, c) := by
          unfold kCallG
          rw [ec, if_neg k0, hj, et, e1, if_neg (fun w => w k1), e9, if_neg (fun w => w k2), if_pos k3]
        by_cases k4 : th = 0
        · subst k4
          have eq : mCallG s (kC W) t a w = (0, nI 2, mComes (mNames s (kC W) t w (s 10 j)).2 t (mNames s (kC W) t w (s 10 j)).1 0 (-1)) := by
            unfold mCallG
            rw [if_neg k0, hj, ets, if_neg (fun w => w k1), if_neg (fun w => w k2), s8, if_neg (show ¬ 1 < nI 0 by decide), if_neg (fun w => w rfl)]
          refine ⟨mCallG s (kC W) t a w, hM, ?_, fun q => by rw [eq] at q; exact absurd rfl q, by unfold mCallG mCallE; (repeat' split) <;> first | exact i50 | exact i51 | exact i52 | exact i53 | exact i54⟩
          rw [eq]
          refine kDone_mp (kDone_q (by rw [eqc]) (by rw [eqc]) hcl) (fun _ W' c' X P => ?_)
          rcases P with ⟨-, x, c2, P2, rfl⟩ | ⟨q, -⟩
          · rcases P2 with ⟨-, rfl, P3⟩ | ⟨q, -⟩
            · have eA : (mNames s (kC W) t w (s 10 j)).1 = kNamA c t w := by
                unfold mNames kNamA
                split
                · rfl
                · split
                  · rfl
                  · rw [mPlace_tab, JE.tab]
                    cases kTab s t (vN w % 100) with
                    | none => rfl
                    | some o =>
                      rw [Option.map_some, e14]
                      dsimp only
                      split <;> rfl
              rw [eA]
              rcases P3 with ⟨p1, rfl, rfl⟩ | ⟨p1, p2, o, p3, p4⟩
              · have eS : (mNames s (kC W') t w (s 10 j)).2 = s := by
                  rw [← eA] at p1
                  unfold mNames at p1 ⊢
                  split
                  · rfl
                  · rename_i q1
                    rw [if_neg q1] at p1
                    split
                    · rfl
                    · rename_i q2
                      rw [if_neg q2] at p1
                      cases e : mPlace s t (vN w % 100) with
                      | none => rfl
                      | some o =>
                        rw [e] at p1
                        dsimp only at p1 ⊢
                        split
                        · rename_i q3
                          rw [if_pos q3] at p1
                          exact absurd rfl p1
                        · rfl
                rw [eS]
                exact ⟨n, jS_mono (jS_comes J0 t _ 0 (-1)) (by omega) hK, Nat.le_succ _⟩
              · have p3s : kTab s t (vN w % 100) = some o := by rw [← JE.tab]; exact p3
                have eS : (mNames s (kC W) t w (s 10 j)).2 = mPutC s (kC W) (8 * o + vN w % 100 % 8) (nI 1) (nI 2) (c 10 j) 0 := by
                  rw [← eA] at p1
                  unfold mNames at p1 ⊢
                  by_cases q1 : w < 0 ∨ ¬ vN w / 100 = 1
                  · rw [if_pos q1] at p1
                    exact absurd p1 (show ¬ (-2 : Int32) = 0 by decide)
                  · rw [if_neg q1, if_neg (fun q => q p2), mPlace_tab, p3s, Option.map_some]
                    dsimp only
                    rw [if_pos (by rw [← e14]; exact p4.2.2.2.2.1), e10]
                    rfl
                rw [eS]
                have J3 := jS_put J0 p4 X hC (Or.inl (by decide)) JT.2 (isN_nI (by decide) (by decide)) (isN_nI (n := 0) (by omega) (by omega)) (fun _ => ⟨hb4, hb0⟩)
                exact ⟨n + 1, jS_mono (jS_comes J3 t _ 0 (-1)) (by omega) hK, by rw [p4.2.2.2.2.2.2.1]; exact Nat.le_refl _⟩
            · rw [et] at q
              omega
          · rw [et] at q
            omega
        · have k5 : th = 1 := by omega
          subst k5
          have vb : s 10 j = nI (vN (s 10 j)) := by rw [← e10]; exact hb4.1
          have eq : mCallG s (kC W) t a w = (0, nI 2, mComes (mFiles s w (vN (s 10 j))).2 t (mFiles s w (vN (s 10 j))).1 0 (-1)) := by
            unfold mCallG
            rw [if_neg k0, hj, ets, if_neg (fun w => w k1), if_neg (fun w => w k2), s8, if_neg (show ¬ 1 < nI 1 by decide), if_pos (show ¬ nI 1 = 0 by decide)]
          refine ⟨mCallG s (kC W) t a w, hM, ?_, fun q => by rw [eq] at q; exact absurd rfl q, by unfold mCallG mCallE; (repeat' split) <;> first | exact i50 | exact i51 | exact i52 | exact i53 | exact i54⟩
          rw [eq]
          refine kDone_mp (kDone_q (by rw [eqc]) (by rw [eqc]) hcl) (fun _ W' c' X P => ?_)
          rcases P with ⟨-, x, c2, P2, rfl⟩ | ⟨q, -⟩
          · rcases P2 with ⟨q, -⟩ | ⟨-, rfl, rfl, rfl⟩
            · rw [et] at q
              omega
            · have hd4 : vN (s 10 j) < 4 := by rw [← e10]; exact hb4.2
              obtain ⟨f1, f2⟩ := sim_files JC hd4 w
              rw [← vb, ← e10] at f1 f2
              have kf := fun f h1 h2 h3 h4 h5 h6 h7 => kServe_fn (c := c) (bd := c 10 j) (w := w) (f := f) h1 h2 h3 h4 h5 h6 h7
              have sf := fun f h1 h2 h3 h4 => mFiles_fn (s := s) (d := vN (s 10 j)) (w := w) (f := f) h1 h2 h3 h4
              have J3 : jS K W' (kServe c (c 10 j) w).2 (mFiles s w (vN (s 10 j))).2 n := by
                refine ⟨⟨?_, ?_, ?_, ?_⟩, by rw [← e10]; exact f2, ?_⟩
                · refine jA_of JA ?_ ?_ ?_ ?_ ?_ ?_ ?_ ?_ ?_ ?_ ?_ ?_ ?_ ?_ ?_ ?_ ?_ ?_ <;> exact kf _ (by decide) (by decide) (by decide) (by decide) (by decide) (by decide) (by decide)
                · unfold jAt
                  rw [kf 12 (by decide) (by decide) (by decide) (by decide) (by decide) (by decide) (by decide), kf 6 (by decide) (by decide) (by decide) (by decide) (by decide) (by decide) (by decide), kf 8 (by decide) (by decide) (by decide) (by decide) (by decide) (by decide) (by decide)]
                  exact JT
                · unfold jE
                  rw [kf 1 (by decide) (by decide) (by decide) (by decide) (by decide) (by decide) (by decide), kf 2 (by decide) (by decide) (by decide) (by decide) (by decide) (by decide) (by decide), kf 3 (by decide) (by decide) (by decide) (by decide) (by decide) (by decide) (by decide), kf 4 (by decide) (by decide) (by decide) (by decide) (by decide) (by decide) (by decide), kf 5 (by decide) (by decide) (by decide) (by decide) (by decide) (by decide) (by decide), kf 6 (by decide) (by decide) (by decide) (by decide) (by decide) (by decide) (by decide), kf 8 (by decide) (by decide) (by decide) (by decide) (by decide) (by decide) (by decide), kf 9 (by decide) (by decide) (by decide) (by decide) (by decide) (by decide) (by decide), kf 10 (by decide) (by decide) (by decide) (by decide) (by decide) (by decide) (by decide), kf 11 (by decide) (by decide) (by decide) (by decide) (by decide) (by decide) (by decide), kf 12 (by decide) (by decide) (by decide) (by decide) (by decide) (by decide) (by decide), kf 14 (by decide) (by decide) (by decide) (by decide) (by decide) (by decide) (by decide), sf 1 (by decide) (by decide) (by decide) (by decide), sf 2 (by decide) (by decide) (by decide) (by decide), sf 3 (by decide) (by decide) (by decide) (by decide), sf 4 (by decide) (by decide) (by decide) (by decide), sf 5 (by decide) (by decide) (by decide) (by decide), sf 6 (by decide) (by decide) (by decide) (by decide), sf 8 (by decide) (by decide) (by decide) (by decide), sf 9 (by decide) (by decide) (by decide) (by decide), sf 10 (by decide) (by decide) (by decide) (by decide), sf 11 (by decide) (by decide) (by decide) (by decide), sf 12 (by decide) (by decide) (by decide) (by decide), sf 14 (by decide) (by decide) (by decide) (by decide), sf 13 (by decide) (by decide) (by decide) (by decide), sf 7 (by decide) (by decide) (by decide) (by decide)]
                  exact JE
                · exact jB_of JB (fun f hf => kf f (by omega) (by omega) (by omega) (by omega) (by omega) (by omega) (by omega)) (fun f hf => sf f (by omega) (by omega) (by omega) (by omega)) (fun x _ => by rw [kf 1 (by decide) (by decide) (by decide) (by decide) (by decide) (by decide) (by decide)]) (Nat.le_refl _) (Nat.le_refl _)
                · unfold jD
                  rw [kf 8 (by decide) (by decide) (by decide) (by decide) (by decide) (by decide) (by decide), kf 10 (by decide) (by decide) (by decide) (by decide) (by decide) (by decide) (by decide), kf 3 (by decide) (by decide) (by decide) (by decide) (by decide) (by decide) (by decide), kf 4 (by decide) (by decide) (by decide) (by decide) (by decide) (by decide) (by decide)]
                  exact JD
              have f1' : (kServe c (c 10 j) w).1 = (mFiles s w (vN (s 10 j))).1 := by rw [f1, e10]
              dsimp only
              rw [← f1']
              exact ⟨n, jS_mono (jS_comes J3 t (kServe c (c 10 j) w).1 0 (-1)) (by omega) hK, Nat.le_succ _⟩
          · rw [et] at q
            omega
      · -- an endpoint
        have kc : c 1 th = 1 := by rw [e1]; exact k1
        have nst : ¬ (s 15 t = 1 ∨ s 15 t = nI 2) := by rw [h15]; decide
        have z0N : isN (0 : Int32) (kC W + 1) := isN_nI (n := 0) (by omega) (by omega)
        have J1 := jS_noteC J0 (t := t) (w := w) (b := c 10 j) (g := 0) nst z0N
        have J2 : jS (K + 1) W (kCal1 c t j w) (mNum s t) n := by
          obtain ⟨⟨A1, A2, A3, A4⟩, A5, A6⟩ := J1
          exact ⟨⟨jA_of A1 rfl rfl rfl rfl rfl rfl rfl rfl rfl rfl rfl rfl rfl rfl rfl rfl rfl rfl, A2, A3, jB_num A4 t1 t2 (by omega)⟩, A5, A6⟩
        have erc : kRecv (kCal1 c t j w) th = mWaiting (mNum s t) (nI th) (nI 4) (nI 4) := jB_recv J2.1.2.2.2 hT g2 kc
        have vl := mWaiting_lt (mNum s t) (nI th) (nI 4) (nI 4)
        have eE : mCallG s (kC W) t a w = mCallE (mNum s t) (kC W) t w (s 10 j) (nI th) := by
          unfold mCallG
          rw [if_neg k0, hj, ets, if_neg (fun w => w k1), if_neg (fun w => w k2), s8, if_pos (show (1 : Int32) < nI th from nI_lt (a := 1) (by omega) (by omega))]
        by_cases k4 : mWaiting (mNum s t) (nI th) (nI 4) (nI 4) = 0
        · have eq : mCallG s (kC W) t a w = (0, 1, mWaits (mNote (mNum s t) t w (s 10 j) 0) t (nI 2) (nI th)) := by
            rw [eE]
            unfold mCallE
            rw [if_pos k4]
          have eqc : kCallG c t a w = (0, 1, c) := by
            unfold kCallG
            rw [ec, if_neg k0, hj, et, e1, if_neg (fun w => w k1), e9, if_neg (fun w => w k2), if_neg k3, erc, if_pos k4]
          refine ⟨mCallG s (kC W) t a w, hM, ?_, fun q => by rw [eq] at q; exact absurd rfl q, by unfold mCallG mCallE; (repeat' split) <;> first | exact i50 | exact i51 | exact i52 | exact i53 | exact i54⟩
          rw [eq]
          refine kDone_mp (kDone_q (by rw [eqc]) (by rw [eqc]) hcl) (fun _ W' c' X P => ?_)
          rcases P with ⟨q, -⟩ | ⟨-, P⟩
          · rw [et] at q
            exact absurd q k3
          · rw [et] at P
            rcases P with ⟨-, rfl, rfl⟩ | ⟨q, -⟩
            · have nst2 : ¬ (mNum s t 15 t = 1 ∨ mNum s t 15 t = nI 2) := nst
              have J3 := jS_noteS J2 (t := t) (w := w) (b := s 10 j) (g := 0) nst2 z0N
              refine ⟨n, jS_mono (jS_waits J3 (st := nI 2) t1 t2 (by omega) g2 h52 (Or.inr ⟨Or.inr (Or.inl rfl), kc⟩) (fun _ => ?_) (fun w => absurd w (by decide)) (fun _ u u1 u2 a1 a2 => mWaiting_hit u1 u2 ⟨Or.inl a1, a2⟩ k4) (fun w => absurd w (by decide))) (by omega) hK, Nat.le_succ _⟩
              simp only [kCal1, mNote, sS_app, Nat.reduceEqDiff, false_and, and_self, ↓reduceIte, e10]
            · rw [erc] at q
              exact absurd k4 q
        · generalize hv : mWaiting (mNum s t) (nI th) (nI 4) (nI 4) = v at *
          have eq : mCallG s (kC W) t a w = (0, 0, mAsks (mReady (mDel (mNum s t) (kC W) v w (s 10 j) 0) v) t v) := by
            rw [eE]
            unfold mCallE
            rw [hv, if_neg k4]
          have eqc : kCallG c t a w = (0, 0, c) := by
            unfold kCallG
            rw [ec, if_neg k0, hj, et, e1, if_neg (fun w => w k1), e9, if_neg (fun w => w k2), if_neg k3, erc, if_neg k4]
          refine ⟨mCallG s (kC W) t a w, hM, ?_, fun q => by rw [eq] at q; exact absurd rfl q, by unfold mCallG mCallE; (repeat' split) <;> first | exact i50 | exact i51 | exact i52 | exact i53 | exact i54⟩
          rw [eq]
          refine kDone_mp (kDone_q (by rw [eqc]) (by rw [eqc]) hcl) (fun _ W' c' X P => ?_)
          rcases P with ⟨q, -⟩ | ⟨-, P⟩
          · rw [et] at q
            exact absurd q k3
          · rw [et] at P
            rcases P with ⟨q, -⟩ | ⟨-, rfl, P⟩
            · rw [erc] at q
              exact absurd q k4
            · rw [erc] at P ⊢
              rcases mWaiting_or (mNum s t) (nI th) (nI 4) (nI 4) with q | ⟨v1, v2, v3⟩
              · rw [hv] at q
                exact absurd q k4
              rw [hv] at v1 v2
              have hv4 : mNum s t 15 v = nI 4 := v2.elim id id
              have htv : t ≠ v := by
                intro q
                have : mNum s t 15 v = s 15 v := rfl
                rw [this, ← q, h15] at hv4
                exact absurd hv4 (by decide)
              have x26 : kCal1 c t j w 26 t = nI 0 := by
                simp only [kCal1, mNote, sS_app, Nat.reduceEqDiff, false_and, and_self, ↓reduceIte, nI_0]
              have x24 : kCal1 c t j w 24 t = w := by
                simp only [kCal1, mNote, sS_app, Nat.reduceEqDiff, false_and, and_self, ↓reduceIte]
              have x25 : kCal1 c t j w 25 t = s 10 j := by
                simp only [kCal1, mNote, sS_app, Nat.reduceEqDiff, false_and, and_self, ↓reduceIte, e10]
              obtain ⟨n', J3, hc3⟩ := sim_del J2 hC (g := 0) x26 (Nat.zero_le _) (J2.1.2.2.2.2.2.2.2.2.1 _ v1 vl hv4) X P
              rw [x24, x25] at J3
              rw [asks_ready htv]
              exact ⟨n', jS_mono (jS_ready (jS_asks J3 t1 t2 v1 vl) v1 vl (by omega)) (by omega) hK, hc3⟩
    · have eq : mCallG s (kC W) t a w = (nI 3, 0, s) := by
        unfold mCallG
        rw [if_neg k0, hj, ets, if_neg (fun w => w k1), if_pos k2]
      have eqc : kCallG c t a w = (nI 3, 0, c) := by
        unfold kCallG
        rw [ec, if_neg k0, hj, et, e1, if_neg (fun w => w k1), e9, if_pos k2]
      refine ⟨mCallG s (kC W) t a w, hM, ?_, fun _ => by rw [eq], by unfold mCallG mCallE; (repeat' split) <;> first | exact i50 | exact i51 | exact i52 | exact i53 | exact i54⟩
      rw [eq]
      exact kDone_mp (kDone_q (by rw [eqc]) (by rw [eqc]) hcl) (fun hc => absurd hc n30)
  · have eq : mCallG s (kC W) t a w = (1, 0, s) := by
      unfold mCallG
      rw [if_neg k0, hj, ets, if_pos k1]
    have eqc : kCallG c t a w = (1, 0, c) := by
      unfold kCallG
      rw [ec, if_neg k0, hj, et, e1, if_pos k1]
    refine ⟨mCallG s (kC W) t a w, hM, ?_, fun _ => by rw [eq], by unfold mCallG mCallE; (repeat' split) <;> first | exact i50 | exact i51 | exact i52 | exact i53 | exact i54⟩
    rw [eq]
    exact kDone_mp (kDone_q (by rw [eqc]) (by rw [eqc]) hcl) (fun hc => absurd hc n10)
end LR
