/-! Alike: delete, revoke. -/
section LS
variable {z : xzs} {W : kW} {h : xH} {c s : mS} {n K m : Nat}
theorem mTh_le (c : mS) : ∀ m, mTh c m ≤ m
  | 0 => Nat.le_refl _
  | m + 1 => by
    unfold mTh
    have := mTh_le c m
    split <;> omega
theorem mDropL_0 {C k : Nat} (h33 : s 33 0 = nI 0) (h13 : s 13 0 = nI C) (hC : C < 1200) : mDropL C 1 k s = some (k, s) := by
  have v33 : vN (s 33 0) = 0 := by rw [h33]; rfl
  unfold mDropL
  rw [v33, if_pos ⟨h33, by decide, h13, hC⟩, if_pos rfl]
theorem mDropL_succ {C : Nat} : ∀ (F k : Nat) (s : mS) (r : Nat × mS), mDropL C F k s = some r → mDropL C (F + 1) k s = some r
  | 0, k, s, r, e => by cases e
  | F + 1, k, s, r, e => by
    unfold mDropL at e ⊢
    split at e
    · rename_i q1
      rw [if_pos q1]
      split at e
      · rename_i q2
        rw [if_pos q2]
        exact e
      · rename_i q2
        rw [if_neg q2]
        split at e
        · rename_i q3
          rw [if_pos q3]
          split at e
          · rename_i q4
            rw [if_pos q4]
            exact mDropL_succ F _ _ _ e
          · rename_i q4
            rw [if_neg q4]
            obtain ⟨s1, h1, h2⟩ := Option.bind_eq_some_iff.mp e
            rw [h1, Option.bind_some]
            exact mDropL_succ F _ _ _ h2
        · cases e
    · cases e
theorem mDropL_mono {C F F' k : Nat} {r : Nat × mS} (e : mDropL C F k s = some r) (hF : F ≤ F') : mDropL C F' k s = some r := by
  obtain ⟨t, rfl⟩ := Nat.exists_eq_add_of_le hF
  clear hF
  induction t with
  | zero => exact e
  | succ t ih => exact mDropL_succ _ _ _ _ ih
theorem mRevOk_mono {C F F' j : Nat} (hF : F ≤ F') : ∀ (G y v : Nat) (s : mS) (v' : Nat) (s' : mS), mRevOk C F j G y v s v' s' → mRevOk C F' j G y v s v' s'
  | 0, _, _, _, _, _, e => e
  | G + 1, y, v, s, v', s', e => by
    rcases e with e | ⟨h1, h2, k1, s1, h3, h4, h5, h6⟩
    · exact Or.inl e
    · exact Or.inr ⟨h1, h2, k1, s1, mDropL_mono h3 hF, h4, h5, mRevOk_mono hF G _ _ _ _ _ h6⟩
/-- a discard at the top -/
theorem sim_dis (ok : kOk W h) (hK : K + 1 < 2 ^ 30) (R : kRel K W c s n) {j : Nat} (j1 : 1 ≤ j) (j2 : j ≤ kC W) (jl : ¬ c 12 j = 0) : ∃ k c' s' F, 1 ≤ k ∧ k ≤ n ∧ c' 12 j = 0 ∧ f_K_discard z [.ref (kg W 0 0), .ref (kg W 1 j), .int 0] (kPut W h c) = some (.inl (some (.int (nI k))), kPut W h c') ∧ kRel K W c' s' (n - k) ∧ mDropL (kC W) F 0 (mDropS s j) = some (k, s') ∧ kMn c c' ∧ sMn s s' := by
  have b2 := R.1.1.2.1
  have b3 := R.1.1.2.2.1
  have hth := mTh_le c (kT W - 10)
  have R1 : kRel K W c (mDropS s j) n := R
  obtain ⟨k, c', s', p1, p2, p3, p4, p5, p6, ⟨G', p7⟩, p8, p9, p10, p11⟩ := kDisAll (z := z) ok hK 50 c (mDropS s j) n j 0 0 R1 j1 j2 jl (by omega) (by omega) (Nat.le_refl _) (by simp only [mDropS, sS_app, Nat.reduceEqDiff, false_and, and_self, ↓reduceIte]; rfl) (by simp only [mDropS, sS_app, and_self, ↓reduceIte])
  refine ⟨k, c', s', G' + 1, p1, p4, p2, p3, p5, ?_, p10, sMn.tr (fun f hf => ?_) p11⟩
  · rw [p7, Nat.zero_add]
    exact mDropL_0 p8 p5.2.2.1.2.2.2.2.2.2.2.2.2.2.2.2.1 b3
  · unfold mDropS
    rw [sS_fn (by omega), sS_fn (by omega)]
theorem jS_mn {c' s' : mS} {n' : Nat} (J : jS K W c s n) (R : kRel K W c' s' n') (M : kMn c c') (S : sMn s s') : jS K W c' s' n' := by
  obtain ⟨-, JC, JD⟩ := J
  obtain ⟨m1, m2, m3, m4, m5⟩ := M
  refine ⟨R, ?_, ?_⟩
  · unfold jC
    rw [m5 36 (by decide), m5 37 (by decide), m5 35 (by decide), m5 73 (by decide), m5 74 (by decide), m5 75 (by decide), S 36 (by decide), S 37 (by decide), S 35 (by decide), S 34 (by decide)]
    exact JC
  · unfold jD
    rw [m2, m5 10 (by decide), m5 3 (by decide), m5 4 (by decide)]
    exact JD
theorem sim_delete (J : jS K W c s n) (ok : kOk W h) (hz : z.1 < h.1) (hC : kC W + 1 < 1200) (hK : K + 10 < 2 ^ 30) (p1 : Int32) : kSim z W h K c s n m (f_K_delete z) (f_M_delete z) [.int p1] := by
  have Kp := J.p ok hz hC
  have hnow := J.now
  by_cases hr : mNow s = 0 ∨ ¬ rAd p1
  · exact kSim_bad J (fun hR okR => t_M_delete_bad okR hr) (fun P => t_K_delete_bad Kp (by rw [hnow]; exact hr) P)
  have h0 : mNow s ≠ 0 := fun w => hr (Or.inl w)
  obtain ⟨a, ha, rfl⟩ := w_addr (x := p1) (Classical.byContradiction fun w => hr (Or.inr w))
  have t1 := mNow_pos h0
  have t2 := mNow_lt s
  have J0 := J
  obtain ⟨⟨JA, JT, JE, JB⟩, JC, JD⟩ := J
  have ec := JE.cap (mNow s) a
  have h0c : mNow c ≠ 0 := by rw [hnow]; exact h0
  by_cases k0 : mCapa s (mNow s) a = 0
  · refine ⟨(nI 2, 0, s), fun hR okR => t_M_delete0 okR (JA.mwf JE) rfl h0 ha k0, ?_, fun _ => rfl, i52⟩
    refine kD_thr 2 (by decide) (by decide) rfl (E_K_delete z _ _ _ _ ?_)
    unfold D_K_delete_0
    rw [kisK ok, Option.bind_some, t_K_actor ok h0c, xclR_some, t_K_isAddress, xclI_some, rAd_if (rAd_nI ha), t_K_needNumbers (by decide), xclV_some]
    show xclR (f_K_capabilityAt z [.ref (kg W 2 (mNow c)), .int (nI a)] (kPut W h c)) _ = _
    rw [hnow, t_K_capabilityAt0 ok JA.wf t1 t2 ha (by rw [ec]; exact k0), xclR_thr]
    rfl
  · have k0c : ¬ mCapa c (mNow s) a = 0 := by rw [ec]; exact k0
    obtain ⟨l1, l2, l3, l4, -⟩ := J0.live t1 t2 ha k0c
    obtain ⟨k, c', s', F, q1, q2, q3, q4, q5, q6, q7, q8⟩ := sim_dis (z := z) ok (by omega) J0.1 l1 l2 l4
    rw [ec] at q6
    refine ⟨(0, nI k, s'), fun hR okR => t_M_delete okR (JA.mwf JE) rfl h0 ha k0 q6, ?_, fun q => absurd rfl q, i50⟩
    refine kD_same (c' := c') Kp rfl (E_K_delete z _ _ _ _ ?_) ⟨n - k, jS_mono (jS_mn J0 q5 q7 q8) (by omega) hK, Nat.le_succ _⟩
    unfold D_K_delete_0
    rw [kisK ok, Option.bind_some, t_K_actor ok h0c, xclR_some, t_K_isAddress, xclI_some, rAd_if (rAd_nI ha), t_K_needNumbers (by decide), xclV_some]
    show xclR (f_K_capabilityAt z [.ref (kg W 2 (mNow c)), .int (nI a)] (kPut W h c)) _ = _
    rw [hnow, t_K_capabilityAt ok JA.wf t1 t2 ha k0c, xclR_some, kisK ok, Option.bind_some, ic_0]
    show xclI (f_K_discard z [.ref (kg W 0 0), .ref (kg W 1 (vN (mCapa c (mNow s) a))), .int 0] (kPut W h c)) _ = _
    rw [q4, xclI_some]
-- revoke
theorem mYoung_lv {top : Nat} : ∀ C : Nat, mYoung c top C ≠ 0 → 1 ≤ mYoung c top C ∧ mYoung c top C ≤ C ∧ ¬ c 12 (mYoung c top C) = 0
  | 0, e => absurd rfl e
  | C + 1, e => by
    unfold mYoung at e ⊢
    by_cases q : ¬ c 12 (C + 1) = 0 ∧ mCame c (C + 1) top = true
    · rw [if_pos q]
      exact ⟨by omega, Nat.le_refl _, q.1⟩
    · rw [if_neg q] at e ⊢
      obtain ⟨a1, a2, a3⟩ := mYoung_lv C e
      exact ⟨a1, by omega, a3⟩
theorem sim_revL (ok : kOk W h) (hK : K + 1 < 2 ^ 30) {j : Nat} (j1 : 1 ≤ j) (j2 : j ≤ kC W) : ∀ (R n v : Nat) (c s : mS), n ≤ R → R < 2 ^ 31 → kRel K W c s n → ∃ k c' s' n' G F, B_K_discardAllThatCameOf_10 z (kg W 0 0) (some (kg W 1 j)) (nI v) (nI R) (kPut W h c) = some (.inl (some (.int (nI (v + k)))), kPut W h c') ∧ kRel K W c' s' n' ∧ mRevOk (kC W) F j G (if s 12 j = 0 then 0 else mYoung s j (kC W)) v s (v + k) s' ∧ kMn c c' ∧ sMn s s'
  | R, n, v, c, s, hn, hR, hrel => by
    have E := hrel.2.2.1
    have J := hrel.1
    have b3 := J.1.2.2.1
    have e12 : c 12 = s 12 := E.2.2.2.2.2.2.2.2.2.2.1
    have e11 : c 11 = s 11 := E.2.2.2.2.2.2.2.2.2.1
    have e52 : ∀ x H, B_K_discardAllThatCameOf_52 z x H = some (.inl (some (.int x)), H) := fun x H => E_K_discardAllThatCameOf_52 z _ _ _ rfl
    have stop : (if s 12 j = 0 then 0 else mYoung s j (kC W)) = 0 → B_K_discardAllThatCameOf_10 z (kg W 0 0) (some (kg W 1 j)) (nI v) (nI R) (kPut W h c) = some (.inl (some (.int (nI v))), kPut W h c) → ∃ k c' s' n' G F, B_K_discardAllThatCameOf_10 z (kg W 0 0) (some (kg W 1 j)) (nI v) (nI R) (kPut W h c) = some (.inl (some (.int (nI (v + k)))), kPut W h c') ∧ kRel K W c' s' n' ∧ mRevOk (kC W) F j G (if s 12 j = 0 then 0 else mYoung s j (kC W)) v s (v + k) s' ∧ kMn c c' ∧ sMn s s' := fun h1 h2 => ⟨0, c, s, n, 1, 0, h2, hrel, Or.inl ⟨h1, rfl, rfl⟩, kMn.rf, sMn.rf⟩
    by_cases hl : c 12 j = 0
    · refine stop (by rw [← e12, if_pos hl]) (E_K_discardAllThatCameOf_10 z _ _ _ _ _ _ ?_)
      unfold D_K_discardAllThatCameOf_10
      by_cases q : nI R ≤ 0
      · rw [if_pos q, e52]
      · rw [if_neg q, Option.bind_some, kr_cgone ok j1 j2, Option.bind_some, if_pos (fun w => kG_0.mp w hl), e52]
    · have hn1 : 1 ≤ n := by
        obtain ⟨i, i1, -⟩ := (J.2.2.2.2.2.1.2.2 j j1 j2).mp hl
        omega
      have hye : mYoung s j (kC W) = kYg c j n := by rw [kYg_eq _ _ J.lst, mYoung_congr e11 e12]
      by_cases hy : kYg c j n = 0
      · refine stop (by rw [← e12, if_neg hl, hye]; exact hy) (E_K_discardAllThatCameOf_10 z _ _ _ _ _ _ ?_)
        unfold D_K_discardAllThatCameOf_10
        rw [if_neg (nI_nle (by omega) hR), Option.bind_some, kr_cgone ok j1 j2, Option.bind_some, if_neg (fun w => w (kG_0.mpr hl)), kisK ok, Option.bind_some, t_K_youngest ok J.wf J.ls j1 j2, xclR_some, hy]
        show xcase (kNo W 0) _ _ = _
        rw [show kNo W 0 = none from if_pos rfl, xcase_n, e52]
      · have hyl := mYoung_lv (c := c) (top := j) (kC W) (by rw [← kYg_eq _ _ J.lst]; exact hy)
        rw [← kYg_eq _ _ J.lst] at hyl
        obtain ⟨k1, c1, s1, F1, q1, q2, q3, q4, q5, q6, q7, q8⟩ := sim_dis (z := z) ok hK hrel hyl.1 hyl.2.1 hyl.2.2
        obtain ⟨R', rfl⟩ : ∃ R', R = R' + 1 := ⟨R - 1, by omega⟩
        obtain ⟨k2, c', s', n', G, F2, p1, p2, p3, p4, p5⟩ := sim_revL ok hK j1 j2 R' (n - k1) (v + k1) c1 s1 (by omega) (by omega) q5
        refine ⟨k1 + k2, c', s', n', G + 1, F1 + F2, E_K_discardAllThatCameOf_10 z _ _ _ _ _ _ ?_, p2, Or.inr ⟨?_, ?_, k1, s1, ?_, q5.1.mpar q5.2.2.1, q5.2.2.1.2.2.2.2.2.2.2.2.2.2.2.2.1, ?_⟩, q7.tr p4, q8.tr p5⟩
        · unfold D_K_discardAllThatCameOf_10
          rw [if_neg (nI_nle (by omega) hR), Option.bind_some, kr_cgone ok j1 j2, Option.bind_some, if_neg (fun w => w (kG_0.mpr hl)), kisK ok, Option.bind_some, t_K_youngest ok J.wf J.ls j1 j2, xclR_some]
          show xcase (kNo W (kYg c j n)) _ _ = _
          rw [show kNo W (kYg c j n) = some (kg W 1 (kYg c j n)) from if_neg hy, xcase_s, kisK ok, Option.bind_some, ic_0, q4, xclI_some, ic_m1, pk_m1, nI_add, ← Nat.add_assoc]
          exact p1
        · rw [← e12, if_neg hl, hye]
          exact hyl.1
        · rw [← e12, if_neg hl, hye]
          have := hyl.2.1
          omega
        · rw [← e12, if_neg hl, hye]
          exact mDropL_mono q6 (by omega)
        · rw [← Nat.add_assoc]
          exact mRevOk_mono (by omega) _ _ _ _ _ _ p3
theorem mFreeO_iff {o : Nat} {x : Int32} : ∀ m : Nat, mFreeO s o m x = 0 ↔ x = 0 ∨ kMd s o m ≠ 0
  | 0 => ⟨fun w => Or.inl w, fun w => w.elim id (fun y => absurd rfl y)⟩
  | m + 1 => by
    unfold mFreeO kMd
    by_cases q : ¬ s 6 (10 + m) = 0 ∧ s 5 (10 + m) = nI o
    · rw [if_pos q, if_pos q]
      exact ⟨fun _ => Or.inr (by omega), fun _ => rfl⟩
    · rw [if_neg q, if_neg q, mFreeO_iff m, Nat.add_zero]
theorem kMd_le (c : mS) (o : Nat) : ∀ m, kMd c o m ≤ m
  | 0 => Nat.le_refl _
  | m + 1 => by
    unfold kMd
    have := kMd_le c o m
    split <;> omega
theorem jS_used (J : jS K W c s n) {o : Nat} (ho : o < kT W) : jS K W (sS c 3 o 0) (sS s 3 o 0) n := by
  obtain ⟨⟨JA, JT, JE, JB⟩, JC, JD⟩ := J
  obtain ⟨b, a1, a2, a3, a4, a5, a6, a7, a8, a9⟩ := JA
  obtain ⟨e1, e2, e3, e4, e5, e6, e8, e9, e10, e11, e12, e14, e13, e7⟩ := JE
  have e3' : ∀ x, sS c 3 o 0 3 x = if x = o then 0 else c 3 x := fun x => by rw [sS_app]; simp only [true_and]
  refine ⟨⟨⟨b, a1, a2, a3, a4, a5, jA6_of (c := c) rfl rfl rfl a6, a7, jA8_of (c := c) rfl rfl rfl rfl rfl a8, ⟨fun x hx => ?_, a9.2⟩⟩, JT, ⟨e1, e2, ?_, e4, e5, e6, e8, e9, e10, e11, e12, e14, e13, e7⟩, JB⟩, JC, ⟨JD.1, fun x hx => ⟨?_, (JD.2 x hx).2⟩⟩⟩
  · obtain ⟨sz, us, u1, u2, u3, u4⟩ := a9.1 x hx
    unfold kUs
    rw [e3']
    by_cases q : x = o
    · rw [if_pos q]
      exact ⟨sz, 0, u1, rfl, Nat.zero_le _, u4⟩
    · rw [if_neg q]
      exact ⟨sz, us, u1, u2, u3, u4⟩
  · funext x
    rw [sS_app, sS_app, e3]
  · rw [e3']
    by_cases q : x = o
    · rw [if_pos q]
    · rw [if_neg q]
      exact (JD.2 x hx).1
theorem sim_revoke (J : jS K W c s n) (ok : kOk W h) (hz : z.1 < h.1) (hC : kC W + 1 < 1200) (hK : K + 10 < 2 ^ 30) (p1 : Int32) : kSim z W h K c s n m (f_K_revoke z) (f_M_revoke z) [.int p1] := by
  have Kp := J.p ok hz hC
  have hnow := J.now
  by_cases hr : mNow s = 0 ∨ ¬ rAd p1
  · exact kSim_bad J (fun hR okR => t_M_revoke_bad okR hr) (fun P => t_K_revoke_bad Kp (by rw [hnow]; exact hr) P)
  have h0 : mNow s ≠ 0 := fun w => hr (Or.inl w)
  obtain ⟨a, ha, rfl⟩ := w_addr (x := p1) (Classical.byContradiction fun w => hr (Or.inr w))
  have t1 := mNow_pos h0
  have t2 := mNow_lt s
  have J0 := J
  obtain ⟨⟨JA, JT, JE, JB⟩, JC, JD⟩ := J
  have ec := JE.cap (mNow s) a
  have h0c : mNow c ≠ 0 := by rw [hnow]; exact h0
  by_cases k0 : mCapa s (mNow s) a = 0
  · refine ⟨(nI 2, 0, s), fun hR okR => t_M_revoke0 okR (JA.mwf JE) rfl h0 ha k0, ?_, fun _ => rfl, i52⟩
    refine kD_thr 2 (by decide) (by decide) rfl (E_K_revoke z _ _ _ _ ?_)
    unfold D_K_revoke_0
    rw [kisK ok, Option.bind_some, t_K_actor ok h0c, xclR_some, t_K_isAddress, xclI_some, rAd_if (rAd_nI ha), t_K_needNumbers (by decide), xclV_some]
    show xclR (f_K_capabilityAt z [.ref (kg W 2 (mNow c)), .int (nI a)] (kPut W h c)) _ = _
    rw [hnow, t_K_capabilityAt0 ok JA.wf t1 t2 ha (by rw [ec]; exact k0), xclR_thr]
    rfl
  · have k0c : ¬ mCapa c (mNow s) a = 0 := by rw [ec]; exact k0
    obtain ⟨l1, l2, l3, l4, -⟩ := J0.live t1 t2 ha k0c
    have b2 := JA.1.2.1
    have b3 := JA.1.2.2.1
    have b4 := JA.1.2.2.2
    obtain ⟨k, c', s', n', G, F, q1, q2, q3, q4, q5⟩ := sim_revL (z := z) ok (show K + 1 < 2 ^ 30 by omega) l1 l2 n n 0 c s (Nat.le_refl _) (by omega) J0.1
    rw [Nat.zero_add] at q1 q3
    obtain ⟨⟨th, g1, g2, g3⟩, -⟩ := JA.2.2.2.1 _ l1 l2
    have et : vN (c 8 (vN (mCapa c (mNow s) a))) = th := by rw [g1, vN_nI (by omega)]
    have e8 : c 8 = s 8 := JE.2.2.2.2.2.2.1
    have e12 : c 12 = s 12 := JE.2.2.2.2.2.2.2.2.2.2.1
    have ets : vN (s 8 (vN (mCapa s (mNow s) a))) = th := by rw [← ec, ← e8]; exact et
    have hlv : (if s 12 (vN (mCapa c (mNow s) a)) = 0 then 0 else mYoung s (vN (mCapa c (mNow s) a)) (kC W)) = mYoung s (vN (mCapa c (mNow s) a)) (kC W) := if_neg (by rw [← e12]; exact l4)
    rw [hlv, ec] at q3
    have J' := jS_mn J0 q2 q4 q5
    have E' := q2.2.2.1
    have hm62 := q2.1.2.2.2.2.2.2.2.2.1.1 th g2
    have hmd := kMd_le c' th (kT W - 10)
    have ce1 : c' 1 th = s' 1 th := by rw [E'.1]
    have emd : kMd s' th (kT W - 10) = kMd c' th (kT W - 10) := kMd_congr _ (fun x _ => ⟨by rw [E'.2.2.2.2.2.1], by rw [E'.2.2.2.2.1]⟩)
    have hM : ∀ hR, mOk hR m → mDone z hR m (f_M_revoke z [.ref m, .int (nI a)] (mPut hR m s)) (0, nI k, mRevE s' (kT W) th) := fun hR okR => by
      have := t_M_revoke (z := z) okR (JA.mwf JE) (JA.mpar JE) JE.2.2.2.2.2.2.2.2.2.2.2.2.1 b3 JE.2.2.2.2.2.2.2.2.2.2.2.2.2 b2 rfl h0 ha k0 q3
      rw [ets] at this
      exact this
    have go : ∀ (c2 : mS) (H : (if ¬ c' 1 th = 0 then B_K_revoke_53 z (nI k) (kPut W h c') else if ¬ c' 62 th = 0 then B_K_revoke_53 z (nI k) (kPut W h c') else B_K_revoke_53 z (nI k) (kPut W h (sS c' 3 th 0))) = some (.inl (some (.int (nI k))), kPut W h c2)), f_K_revoke z [.ref (kg W 0 0), .int (nI a)] (kPut W h c) = some (.inl (some (.int (nI k))), kPut W h c2) := by
      intro c2 H
      refine E_K_revoke z _ _ _ _ ?_
      unfold D_K_revoke_0
      rw [kisK ok, Option.bind_some, t_K_actor ok h0c, xclR_some, t_K_isAddress, xclI_some, rAd_if (rAd_nI ha), t_K_needNumbers (by decide), xclV_some]
      show xclR (f_K_capabilityAt z [.ref (kg W 2 (mNow c)), .int (nI a)] (kPut W h c)) _ = _
      rw [hnow, t_K_capabilityAt ok JA.wf t1 t2 ha k0c, xclR_some, kisK ok, Option.bind_some]
      have hdl : f_K_discardAllThatCameOf z [.ref (kg W 0 0), .ref (kg W 1 (vN (mCapa c (mNow s) a)))] (kPut W h c) = some (.inl (some (.int (nI k))), kPut W h c') := by
        refine E_K_discardAllThatCameOf z _ (some (kg W 1 (vN (mCapa c (mNow s) a)))) _ _ ?_
        unfold D_K_discardAllThatCameOf_0
        rw [kr_capabilities ok, Option.bind_some, Option.bind_some, kisA ok, Option.bind_some, t_A_size ok, xclI_some, JA.ls.1, ic_0n]
        exact q1
      show xclI (f_K_discardAllThatCameOf z [.ref (kg W 0 0), .ref (kg W 1 (vN (mCapa c (mNow s) a)))] (kPut W h c)) _ = _
      have w3 := kw_used (c := c') ok g2 0
      rw [hdl, xclI_some, Option.bind_some, kr_thing ok l1 l2, q4.2.1, et, Option.bind_some, Option.bind_some, kr_kind ok g2, Option.bind_some, kr_madeOfIt ok g2, Option.bind_some, ic_0, w3, Option.bind_some]
      exact H
    have e53 : ∀ x H, B_K_revoke_53 z x H = some (.inl (some (.int x)), H) := fun x H => E_K_revoke_53 z _ _ _ rfl
    refine ⟨(0, nI k, mRevE s' (kT W) th), hM, ?_, fun q => absurd rfl q, i50⟩
    have hfree := mFreeO_iff (s := s') (o := th) (x := if s' 1 th = 0 then 1 else 0) (kT W - 10)
    rw [emd] at hfree
    by_cases y1 : c' 1 th = 0
    · by_cases y2 : c' 62 th = 0
      · have hz0 : kMd c' th (kT W - 10) = 0 := by
          refine Classical.byContradiction fun w => ?_
          rw [hm62] at y2
          exact nI_ne0 (by omega) (by omega) y2
        have er : mRevE s' (kT W) th = sS s' 3 th 0 := by
          unfold mRevE
          rw [if_neg]
          intro w
          rcases hfree.mp w with y | y
          · rw [if_pos (by rw [← ce1]; exact y1)] at y
            exact absurd y (by decide)
          · exact y hz0
        refine kD_same (c' := sS c' 3 th 0) Kp rfl (go _ ?_) ⟨n', ?_, Nat.le_succ _⟩
        · rw [if_neg (fun w => w y1), if_neg (fun w => w y2), e53]
        · rw [er]
          exact jS_mono (jS_used J' g2) (by omega) hK
      · have er : mRevE s' (kT W) th = s' := by
          unfold mRevE
          rw [if_pos]
          refine hfree.mpr (Or.inr fun w => y2 ?_)
          rw [hm62, w, nI_0]
        refine kD_same (c' := c') Kp rfl (go _ ?_) ⟨n', ?_, Nat.le_succ _⟩
        · rw [if_neg (fun w => w y1), if_pos y2, e53]
        · rw [er]
          exact jS_mono J' (by omega) hK
    · have er : mRevE s' (kT W) th = s' := by
        unfold mRevE
        rw [if_pos]
        exact hfree.mpr (Or.inl (if_neg (by rw [← ce1]; exact y1)))
      refine kD_same (c' := c') Kp rfl (go _ ?_) ⟨n', ?_, Nat.le_succ _⟩
      · rw [if_pos y1, e53]
      · rw [er]
        exact jS_mono J' (by omega) hK
end LS
