/-! The class's actions: mint, move. -/
section KM
variable {z : xzs} {W : kW} {h : xH} {c : mS} {n : Nat}
theorem t_K_mint_bad (K : kP z W h c n) {p1 p2 p3 p4 : Int32} (hr : mNow c = 0 ∨ ¬ (rAd p1 ∧ rAd p2 ∧ rIn p3 0 (nI 7) ∧ rIn p4 1 (nI 255))) (P : kW → mS → Prop) : kDone z W h c (f_K_mint z [.ref (kg W 0 0), .int p1, .int p2, .int p3, .int p4] (kPut W h c)) (mRef c) P := by
  have ok := K.1
  by_cases h0 : mNow c = 0
  · refine kD_thr 4 (by decide) (by decide) (if_pos h0) (E_K_mint z _ _ _ _ _ _ _ ?_)
    unfold D_K_mint_0
    rw [kisK ok, Option.bind_some, t_K_actor0 ok h0, xclR_thr]
    rfl
  · refine kD_thr 1 (by decide) (by decide) (if_neg h0) (E_K_mint z _ _ _ _ _ _ _ ?_)
    have e47 : B_K_mint_47 z (kg W 0 0) p1 p2 p3 p4 (some (kg W 2 (mNow c))) 0 (kPut W h c) = kThr z W h c 8 := by
      refine E_K_mint_47 z _ _ _ _ _ _ _ _ _ ?_
      unfold D_K_mint_47
      rw [t_K_needNumbers0 ok, xclV_thr]
      rfl
    have e46 : B_K_mint_46 z (kg W 0 0) p1 p2 p3 p4 (some (kg W 2 (mNow c))) (kPut W h c) = kThr z W h c 8 := by
      refine E_K_mint_46 z _ _ _ _ _ _ _ _ ?_
      unfold D_K_mint_46
      exact e47
    unfold D_K_mint_0
    rw [kisK ok, Option.bind_some, t_K_actor ok h0, xclR_some, t_K_isAddress, xclI_some]
    by_cases r1 : rAd p1
    · rw [rAd_if r1, if_neg (by decide), t_K_isAddress, xclI_some]
      by_cases r2 : rAd p2
      · rw [rAd_if r2, if_neg (by decide), ic_0, bc_7k, t_K_isWithin, xclI_some]
        by_cases r3 : rIn p3 0 (nI 7)
        · rw [rIn_if r3, if_neg (by decide), ic_1, sc_255, t_K_isWithin, xclI_some, rIn_no (fun r4 => hr.elim h0 (fun w => w ⟨r1, r2, r3, r4⟩)), if_pos rfl]
          exact e46
        · rw [rIn_no r3, if_pos rfl]
          exact e46
      · rw [rAd_no r2, if_pos rfl]
        exact e46
    · rw [rAd_no r1, if_pos rfl]
      exact e46
theorem t_K_mint (K : kP z W h c n) {a b : Nat} {p3 p4 : Int32} (h0 : mNow c ≠ 0) (ha : a < 72) (hb : b < 72) (h3 : rIn p3 0 (nI 7)) (h4 : rIn p4 1 (nI 255)) : kDone z W h c (f_K_mint z [.ref (kg W 0 0), .int (nI a), .int (nI b), .int p3, .int p4] (kPut W h c)) (mMintG c (kC W) (mNow c) a b p3 p4) (fun W' c' => ∃ o, kTab c (mNow c) b = some o ∧ kAdd1 W c n (vN (c 8 (vN (mCapa c (mNow c) a)))) (c 9 (vN (mCapa c (mNow c) a)) &&& p3) p4 (nI (vN (mCapa c (mNow c) a))) o (b % 8) W' c') := by
  obtain ⟨ok, F, A, R, hl, hz, hn, hC⟩ := K
  have t1 := mNow_pos h0
  have t2 := mNow_lt c
  have go : ∀ r, B_K_mint_47 z (kg W 0 0) (nI a) (nI b) p3 p4 (some (kg W 2 (mNow c))) 1 (kPut W h c) = some r → f_K_mint z [.ref (kg W 0 0), .int (nI a), .int (nI b), .int p3, .int p4] (kPut W h c) = some r := by
    intro r q
    refine E_K_mint z _ _ _ _ _ _ _ ?_
    unfold D_K_mint_0
    rw [kisK ok, Option.bind_some, t_K_actor ok h0, xclR_some, t_K_isAddress, xclI_some, rAd_if (rAd_nI ha), if_neg (by decide), t_K_isAddress, xclI_some, rAd_if (rAd_nI hb), if_neg (by decide), ic_0, bc_7k, t_K_isWithin, xclI_some, rIn_if h3, if_neg (by decide), ic_1, sc_255, t_K_isWithin, xclI_some, rIn_if h4, if_neg (by decide)]
    exact q
  unfold mMintG
  by_cases c0 : mCapa c (mNow c) a = 0
  · rw [if_pos c0]
    refine kD_thr 2 (by decide) (by decide) rfl (go _ (E_K_mint_47 z _ _ _ _ _ _ _ _ _ ?_))
    unfold D_K_mint_47
    rw [t_K_needNumbers (by decide), xclV_some]
    show xclR (f_K_capabilityAt z [.ref (kg W 2 (mNow c)), .int (nI a)] (kPut W h c)) _ = _
    rw [t_K_capabilityAt0 ok F t1 t2 ha c0, xclR_thr]
    rfl
  · rw [if_neg c0, mPlace_tab]
    obtain ⟨j1, j2⟩ := kCapN F t1 t2 ha c0
    have q1 := t_K_capabilityAt (z := z) ok F t1 t2 ha c0
    cases e1 : kTab c (mNow c) b with
    | none =>
      rw [Option.map_none]
      refine kD_thr 2 (by decide) (by decide) rfl (go _ (E_K_mint_47 z _ _ _ _ _ _ _ _ _ ?_))
      unfold D_K_mint_47
      rw [t_K_needNumbers (by decide), xclV_some]
      show xclR (f_K_capabilityAt z [.ref (kg W 2 (mNow c)), .int (nI a)] (kPut W h c)) _ = _
      rw [q1, xclR_some]
      show xclR (f_K_tableAt z [.ref (kg W 2 (mNow c)), .int (nI b)] (kPut W h c)) _ = _
      rw [t_K_tableAt0 ok F t1 t2 hb e1, xclR_thr]
      rfl
    | some o =>
      obtain ⟨o1, o2⟩ := kTab_ok F t1 t2 hb e1
      have hm : b % 8 < 8 := Nat.mod_lt _ (by decide)
      have hth := F.2.2.1 _ j1 j2
      rw [Option.map_some]
      have go2 : ∀ (x : Int32) r, (if c 1 (vN (c 8 (vN (mCapa c (mNow c) a)))) = 1 ∨ c 1 (vN (c 8 (vN (mCapa c (mNow c) a)))) = nI 2 then x = 1 else x = 0) → B_K_mint_93 z (kg W 0 0) (nI b) p3 p4 (some (kg W 1 (vN (mCapa c (mNow c) a)))) (some (kg W 5 o)) x (kPut W h c) = some r → f_K_mint z [.ref (kg W 0 0), .int (nI a), .int (nI b), .int p3, .int p4] (kPut W h c) = some r := by
        intro x r hx q
        refine go _ (E_K_mint_47 z _ _ _ _ _ _ _ _ _ ?_)
        unfold D_K_mint_47
        rw [t_K_needNumbers (by decide), xclV_some]
        show xclR (f_K_capabilityAt z [.ref (kg W 2 (mNow c)), .int (nI a)] (kPut W h c)) _ = _
        rw [q1, xclR_some]
        show xclR (f_K_tableAt z [.ref (kg W 2 (mNow c)), .int (nI b)] (kPut W h c)) _ = _
        rw [t_K_tableAt ok F t1 t2 hb e1, xclR_some, Option.bind_some, kr_thing ok j1 j2, Option.bind_some, Option.bind_some, kr_kind ok hth.2, Option.bind_some, ic_1, ic_2, ic_0]
        have e88 : x = 1 → B_K_mint_88 z (kg W 0 0) (nI b) p3 p4 (some (kg W 1 (vN (mCapa c (mNow c) a)))) (some (kg W 5 o)) (kPut W h c) = some r := by
          intro hx
          refine E_K_mint_88 z _ _ _ _ _ _ _ _ ?_
          unfold D_K_mint_88
          rw [hx] at q
          exact q
        by_cases k1 : c 1 (vN (c 8 (vN (mCapa c (mNow c) a)))) = 1
        · rw [if_pos k1]
          rw [if_pos (Or.inl k1)] at hx
          exact e88 hx
        · rw [if_neg k1]
          by_cases k2 : c 1 (vN (c 8 (vN (mCapa c (mNow c) a)))) = nI 2
          · rw [if_neg (fun w => w k2)]
            rw [if_pos (Or.inr k2)] at hx
            exact e88 hx
          · rw [if_pos k2]
            rw [if_neg (by rintro (w | w); exact k1 w; exact k2 w)] at hx
            rw [hx] at q
            exact q
      dsimp only
      by_cases k1 : c 1 (vN (c 8 (vN (mCapa c (mNow c) a)))) = 1 ∨ c 1 (vN (c 8 (vN (mCapa c (mNow c) a)))) = nI 2
      · rw [if_neg (fun w => w k1)]
        have go3 : ∀ (x : Int32) r, (if c 10 (vN (mCapa c (mNow c) a)) = 0 then x = 1 else x = 0) → B_K_mint_109 z (kg W 0 0) (nI b) p3 p4 (some (kg W 1 (vN (mCapa c (mNow c) a)))) (some (kg W 5 o)) x (kPut W h c) = some r → f_K_mint z [.ref (kg W 0 0), .int (nI a), .int (nI b), .int p3, .int p4] (kPut W h c) = some r := by
          intro x r hx q
          refine go2 1 r (by rw [if_pos k1]) (E_K_mint_93 z _ _ _ _ _ _ _ _ _ ?_)
          unfold D_K_mint_93
          rw [t_K_needKind (by decide), xclV_some, Option.bind_some, kr_badge ok j1 j2, Option.bind_some, ic_0, ic_1]
          by_cases k2 : c 10 (vN (mCapa c (mNow c) a)) = 0
          · rw [if_neg (fun w => w k2)]
            rw [if_pos k2] at hx
            rw [hx] at q
            exact q
          · rw [if_pos k2]
            rw [if_neg k2] at hx
            rw [hx] at q
            exact q
        by_cases k2 : c 10 (vN (mCapa c (mNow c) a)) = 0
        · by_cases k3 : c 14 (8 * o + b % 8) = 0
          · rw [if_neg (fun w => w ⟨k2, k3⟩)]
            obtain ⟨W', h', e, p1, p2, p3', p4', p5⟩ := t_K_derive (z := z) (r := p3) (b := p4) ok R hz hl hn hC o1 o2 hm j1 j2 hth.1 hth.2
            refine kD_ans (W' := W') (h' := h') rfl (go3 1 _ (by rw [if_pos k2]) (E_K_mint_109 z _ _ _ _ _ _ _ _ _ ?_)) (kFr.mono p1 (by decide) (by decide)) p2 ⟨o, rfl, hth.2, o1, hm, o2, k3, p3', p4', p5, rfl⟩
            unfold D_K_mint_109
            rw [t_K_needState (by decide), xclV_some, t_K_slotOf (by omega), xclI_some, Option.bind_some, kisT ok o1, Option.bind_some, t_T_isFree ok o1 hm, xclI_some, if_pos ⟨o2, k3⟩, t_K_needState (by decide), xclV_some, Option.bind_some, t_K_slotOf (by omega), xclI_some, kisK ok, Option.bind_some, e, xclI_some]
          · rw [if_pos (fun w => k3 w.2)]
            refine kD_thr 4 (by decide) (by decide) rfl (go3 1 _ (by rw [if_pos k2]) (E_K_mint_109 z _ _ _ _ _ _ _ _ _ ?_))
            unfold D_K_mint_109
            rw [t_K_needState (by decide), xclV_some, t_K_slotOf (by omega), xclI_some, Option.bind_some, kisT ok o1, Option.bind_some, t_T_isFree ok o1 hm, xclI_some, if_neg (fun w => k3 w.2), t_K_needState0 ok, xclV_thr]
            rfl
        · rw [if_pos (fun w => k2 w.1)]
          refine kD_thr 4 (by decide) (by decide) rfl (go3 0 _ (by rw [if_neg k2]) (E_K_mint_109 z _ _ _ _ _ _ _ _ _ ?_))
          unfold D_K_mint_109
          rw [t_K_needState0 ok, xclV_thr]
          rfl
      · rw [if_pos k1]
        refine kD_thr 1 (by decide) (by decide) rfl (go2 0 _ (by rw [if_neg k1]) (E_K_mint_93 z _ _ _ _ _ _ _ _ _ ?_))
        unfold D_K_mint_93
        rw [t_K_needKind0 ok, xclV_thr]
        rfl
-- move
theorem t_K_move_bad (K : kP z W h c n) {p1 p2 : Int32} (hr : mNow c = 0 ∨ ¬ (rAd p1 ∧ rAd p2)) (P : kW → mS → Prop) : kDone z W h c (f_K_move z [.ref (kg W 0 0), .int p1, .int p2] (kPut W h c)) (mRef c) P := by
  have ok := K.1
  by_cases h0 : mNow c = 0
  · refine kD_thr 4 (by decide) (by decide) (if_pos h0) (E_K_move z _ _ _ _ _ ?_)
    unfold D_K_move_0
    rw [kisK ok, Option.bind_some, t_K_actor0 ok h0, xclR_thr]
    rfl
  · refine kD_thr 1 (by decide) (by decide) (if_neg h0) (E_K_move z _ _ _ _ _ ?_)
    have e23 : B_K_move_23 z p1 p2 (some (kg W 2 (mNow c))) (kPut W h c) = kThr z W h c 8 := by
      refine E_K_move_23 z _ _ _ _ _ ?_
      unfold D_K_move_23
      refine E_K_move_24 z _ _ _ _ _ _ ?_
      unfold D_K_move_24
      rw [ic_0, t_K_needNumbers0 ok, xclV_thr]
      rfl
    unfold D_K_move_0
    rw [kisK ok, Option.bind_some, t_K_actor ok h0, xclR_some, t_K_isAddress, xclI_some]
    by_cases r1 : rAd p1
    · rw [rAd_if r1, if_neg (by decide), t_K_isAddress, xclI_some, rAd_no (fun r2 => hr.elim h0 (fun w => w ⟨r1, r2⟩)), if_pos rfl]
      exact e23
    · rw [rAd_no r1, if_pos rfl]
      exact e23
/-- where a capability stands -/
def kS1 (W : kW) (c : mS) (j o i : Nat) : Prop := o < kT W ∧ i < 8 ∧ c 1 o = nI 3 ∧ c 64 j = nI (o + 1) ∧ c 65 j = nI i ∧ c 14 (8 * o + i) = nI j
def kMvS (c : mS) (j o' i' o i : Nat) : mS := sS (sS (sS (sS (sS c 14 (8 * o' + i') 0) 64 j 0) 64 j (nI (o + 1))) 65 j (nI i)) 14 (8 * o + i) (nI j)
theorem t_K_move (K : kP z W h c n) {a b o' i' : Nat} (h0 : mNow c ≠ 0) (ha : a < 72) (hb : b < 72) (S : ¬ mCapa c (mNow c) a = 0 → kS1 W c (vN (mCapa c (mNow c) a)) o' i') : kDone z W h c (f_K_move z [.ref (kg W 0 0), .int (nI a), .int (nI b)] (kPut W h c)) (mMoveG c (mNow c) a b) (fun W' c' => ∃ o, kTab c (mNow c) b = some o ∧ o < kT W ∧ c 1 o = nI 3 ∧ c 14 (8 * o + b % 8) = 0 ∧ W' = W ∧ c' = kMvS c (vN (mCapa c (mNow c) a)) o' i' o (b % 8)) := by
  have K0 := K
  obtain ⟨ok, F, A, R, hl, hz, hn, hC⟩ := K
  have t1 := mNow_pos h0
  have t2 := mNow_lt c
  have go : ∀ r, B_K_move_24 z (nI a) (nI b) (some (kg W 2 (mNow c))) 1 (kPut W h c) = some r → f_K_move z [.ref (kg W 0 0), .int (nI a), .int (nI b)] (kPut W h c) = some r := by
    intro r q
    refine E_K_move z _ _ _ _ _ ?_
    unfold D_K_move_0
    rw [kisK ok, Option.bind_some, t_K_actor ok h0, xclR_some, t_K_isAddress, xclI_some, rAd_if (rAd_nI ha), if_neg (by decide), t_K_isAddress, xclI_some, rAd_if (rAd_nI hb), if_neg (by decide), ic_1]
    exact q
  unfold mMoveG
  by_cases c0 : mCapa c (mNow c) a = 0
  · rw [if_pos c0]
    refine kD_thr 2 (by decide) (by decide) rfl (go _ (E_K_move_24 z _ _ _ _ _ _ ?_))
    unfold D_K_move_24
    rw [t_K_needNumbers (by decide), xclV_some]
    show xclR (f_K_capabilityAt z [.ref (kg W 2 (mNow c)), .int (nI a)] (kPut W h c)) _ = _
    rw [t_K_capabilityAt0 ok F t1 t2 ha c0, xclR_thr]
    rfl
  · rw [if_neg c0, mPlace_tab]
    obtain ⟨j1, j2⟩ := kCapN F t1 t2 ha c0
    obtain ⟨s1, s2, s3, s4, s5, s6⟩ := S c0
    have q1 := t_K_capabilityAt (z := z) ok F t1 t2 ha c0
    have hT := F.1.2.1
    cases e1 : kTab c (mNow c) b with
    | none =>
      rw [Option.map_none]
      refine kD_thr 2 (by decide) (by decide) rfl (go _ (E_K_move_24 z _ _ _ _ _ _ ?_))
      unfold D_K_move_24
      rw [t_K_needNumbers (by decide), xclV_some]
      show xclR (f_K_capabilityAt z [.ref (kg W 2 (mNow c)), .int (nI a)] (kPut W h c)) _ = _
      rw [q1, xclR_some]
      show xclR (f_K_tableAt z [.ref (kg W 2 (mNow c)), .int (nI b)] (kPut W h c)) _ = _
      rw [t_K_tableAt0 ok F t1 t2 hb e1, xclR_thr]
      rfl
    | some o =>
      obtain ⟨o1, o2⟩ := kTab_ok F t1 t2 hb e1
      have hm : b % 8 < 8 := Nat.mod_lt _ (by decide)
      have hth := F.2.2.1 _ j1 j2
      rw [Option.map_some]
      dsimp only
      have ed : (8 * o + b % 8) / 8 = o := by omega
      rw [ed]
      by_cases k3 : c 14 (8 * o + b % 8) = 0
      · have go2 : ∀ (x : Int32) r, (if o = vN (c 8 (vN (mCapa c (mNow c) a))) then x = 0 else x = 1) → B_K_move_68 z (nI b) (some (kg W 1 (vN (mCapa c (mNow c) a)))) (some (kg W 5 o)) x (kPut W h c) = some r → f_K_move z [.ref (kg W 0 0), .int (nI a), .int (nI b)] (kPut W h c) = some r := by
          intro x r hx q
          refine go _ (E_K_move_24 z _ _ _ _ _ _ ?_)
          unfold D_K_move_24
          rw [t_K_needNumbers (by decide), xclV_some]
          show xclR (f_K_capabilityAt z [.ref (kg W 2 (mNow c)), .int (nI a)] (kPut W h c)) _ = _
          rw [q1, xclR_some]
          show xclR (f_K_tableAt z [.ref (kg W 2 (mNow c)), .int (nI b)] (kPut W h c)) _ = _
          rw [t_K_tableAt ok F t1 t2 hb e1, xclR_some, t_K_slotOf (by omega), xclI_some, Option.bind_some, kisT ok o1, Option.bind_some, t_T_isFree ok o1 hm, xclI_some, if_pos ⟨o2, k3⟩, t_K_needState (by decide), xclV_some, Option.bind_some, kr_thing ok j1 j2, Option.bind_some, ic_0, ic_1]
          by_cases k4 : o = vN (c 8 (vN (mCapa c (mNow c) a)))
          · rw [if_pos (by rw [← k4])]
            rw [if_pos k4] at hx
            rw [hx] at q
            exact q
          · rw [if_neg (fun w => k4 ((kg_inj5 ok hth.2 o1).mp (Option.some.inj w)).symm)]
            rw [if_neg k4] at hx
            rw [hx] at q
            exact q
        by_cases k4 : o = vN (c 8 (vN (mCapa c (mNow c) a)))
        · rw [if_pos (Or.inr ⟨by rw [← k4]; exact o2, k4⟩)]
          refine kD_thr 4 (by decide) (by decide) rfl (go2 0 _ (by rw [if_pos k4]) (E_K_move_68 z _ _ _ _ _ _ ?_))
          unfold D_K_move_68
          rw [t_K_needState0 ok, xclV_thr]
          rfl
        · rw [if_neg (by rintro (w | w); exact w k3; exact k4 w.2)]
          refine kD_same K0 rfl (go2 1 _ (by rw [if_neg k4]) (E_K_move_68 z _ _ _ _ _ _ ?_)) ⟨o, rfl, o1, o2, k3, rfl, rfl⟩
          unfold D_K_move_68
          rw [t_K_needState (by decide), xclV_some, Option.bind_some, kisC ok j1 j2, Option.bind_some, t_C_leaveSlot ok s1 (by omega) s3 s2 j1 j2 s4 s5, xclV_some, t_K_slotOf (by omega), xclI_some, kisC ok j1 j2, Option.bind_some]
          show xclV (f_C_enterSlot z [.ref (kg W 1 (vN (mCapa c (mNow c) a))), .ref (kg W 5 o), .int (nI (b % 8))] _) _ = _
          have hk : (sS (sS c 14 (8 * o' + i') 0) 64 (vN (mCapa c (mNow c) a)) 0) 1 o = nI 3 := o2
          rw [t_C_enterSlot ok o1 (by omega) hk hm j1 j2 (by omega), xclV_some, ic_0]
          rfl
      · rw [if_pos (Or.inl k3)]
        refine kD_thr 4 (by decide) (by decide) rfl (go _ (E_K_move_24 z _ _ _ _ _ _ ?_))
        unfold D_K_move_24
        rw [t_K_needNumbers (by decide), xclV_some]
        show xclR (f_K_capabilityAt z [.ref (kg W 2 (mNow c)), .int (nI a)] (kPut W h c)) _ = _
        rw [q1, xclR_some]
        show xclR (f_K_tableAt z [.ref (kg W 2 (mNow c)), .int (nI b)] (kPut W h c)) _ = _
        rw [t_K_tableAt ok F t1 t2 hb e1, xclR_some, t_K_slotOf (by omega), xclI_some, Option.bind_some, kisT ok o1, Option.bind_some, t_T_isFree ok o1 hm, xclI_some, if_neg (fun w => k3 w.2), t_K_needState0 ok, xclV_thr]
        rfl
end KM
