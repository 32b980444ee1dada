/-! The class's actions: retype. -/
theorem xlet_eq (a : Nat) (H : xH) (f : Nat → xH → Option xR) : xlet a H f = f a H := rfl
section KX
variable {z : xzs} {W : kW} {h : xH} {c : mS} {n : Nat}
theorem t_K_retype_bad (K : kP z W h c n) {p1 p2 p3 : Int32} (hr : mNow c = 0 ∨ ¬ (rAd p1 ∧ rIn p2 0 (nI 3) ∧ rAd p3)) (P : kW → mS → Prop) : kDone z W h c (f_K_retype z [.ref (kg W 0 0), .int p1, .int p2, .int p3] (kPut W h c)) (mRef c) P := by
  have ok := K.1
  by_cases h0 : mNow c = 0
  · refine kD_thr 4 (by decide) (by decide) (if_pos h0) (E_K_retype z _ _ _ _ _ _ ?_)
    unfold D_K_retype_0
    rw [kisK ok, Option.bind_some, t_K_actor0 ok h0, xclR_thr]
    rfl
  · refine kD_thr 1 (by decide) (by decide) (if_neg h0) (E_K_retype z _ _ _ _ _ _ ?_)
    have e33 : B_K_retype_33 z (kg W 0 0) p1 p2 p3 (some (kg W 2 (mNow c))) (kPut W h c) = kThr z W h c 8 := by
      refine E_K_retype_33 z _ _ _ _ _ _ _ ?_
      unfold D_K_retype_33
      refine E_K_retype_34 z _ _ _ _ _ _ _ _ ?_
      unfold D_K_retype_34
      rw [ic_0, t_K_needNumbers0 ok, xclV_thr]
      rfl
    unfold D_K_retype_0
    rw [kisK ok, Option.bind_some, t_K_actor ok h0, xclR_some, t_K_isAddress, xclI_some]
    by_cases r1 : rAd p1
    · rw [rAd_if r1, if_neg (by decide), ic_0, ic_3, t_K_isWithin, xclI_some]
      by_cases r2 : rIn p2 0 (nI 3)
      · rw [rIn_if r2, if_neg (by decide), t_K_isAddress, xclI_some, rAd_no (fun r3 => hr.elim h0 (fun w => w ⟨r1, r2, r3⟩)), if_pos rfl]
        exact e33
      · rw [rIn_no r2, if_pos rfl]
        exact e33
    · rw [rAd_no r1, if_pos rfl]
      exact e33
def kRet1 (c : mS) (x : Nat) (k : Int32) (o : Nat) : mS := kMkS (sS c 3 o (c 3 o + mTakes k)) x k (mSizeK k) o
/-- what an untyped has used is no more than it has -/
def kUs (c : mS) (o : Nat) : Prop := ∃ sz us, c 2 o = nI sz ∧ c 3 o = nI us ∧ us ≤ sz ∧ sz ≤ 16
theorem bc_40k : (Int8.ofInt 40).toInt32 = nI 40 := by decide
theorem t_ret148 (K : kP z W h c n) (Q : kRg W c) {j o o' b : Nat} {k : Int32} (j1 : 1 ≤ j) (j2 : j ≤ kC W) (o1 : 1 ≤ o) (o2 : o < kT W) (p1 : o' < kT W) (p2 : c 1 o' = nI 3) (hb : b < 72) (hT : kT W < 50) (hm : c 69 0 = nI (kT W - 10)) : ∃ W' h', B_K_retype_148 z (kg W 0 0) k (nI b) (some (kg W 1 j)) (some (kg W 5 o')) (some (kg W 5 o)) (mTakes k) 1 (kPut W h c) = some (.inl (some (.int (nI (kT W - 9)))), kPut W' h' (kDerS (kRet1 c (kT W) k o) (kC W + 1) (kT W) (nI 7) 0 (nI j) o' (b % 8) n)) ∧ kFr 4 2100 W h W' h' ∧ kXt W W' ∧ kT W' = kT W + 1 ∧ kC W' = kC W + 1 ∧ n + 1 ≤ kcap W' := by
  obtain ⟨ok, F, A, R, hl, hz, hn, hC⟩ := K
  have h10 := F.1.1
  have Q1 : kRg W (sS c 3 o (c 3 o + mTakes k)) := Q
  have mk : f_K_makeOf z [.ref (kg W 0 0), .ref (kg W 5 o), .int k] (kPut W h (sS c 3 o (c 3 o + mTakes k))) = some (.inl (some (.ref (xn h))), kPut (wT W (xn h)) (kH2 h (kThE W (xn h) (kT W) k (mSizeK k) o) k) (kRet1 c (kT W) k o)) := t_K_makeOf (z := z) (c := sS c 3 o (c 3 o + mTakes k)) ok Q1 o1 o2 hT hm k
  have ok1 := regT_ok ok (kThE W (xn h) (kT W) k (mSizeK k) o) k
  have fr1 := regT_fr ok (kThE W (xn h) (kT W) k (mSizeK k) o) k
  have ej : vN (nI j) = j := vN_nI (by omega)
  have fn : ∀ f, f ≠ 1 → f ≠ 2 → f ≠ 3 → f ≠ 4 → f ≠ 5 → f ≠ 6 → f ≠ 61 → f ≠ 62 → f ≠ 69 → f ≠ 68 → kRet1 c (kT W) k o f = c f := by
    intro f h1 h2 h3 h4 h5 h6 h7 h8 h9 h10
    unfold kRet1 kMkS
    rw [tNew_fn h1 h2 h3 h4 h5 h6 h7 h8, sS_fn h8, sS_fn h10, sS_fn h9, sS_fn h3]
  have e14 := fn 14 (by decide) (by decide) (by decide) (by decide) (by decide) (by decide) (by decide) (by decide) (by decide) (by decide)
  have e70 := fn 70 (by decide) (by decide) (by decide) (by decide) (by decide) (by decide) (by decide) (by decide) (by decide) (by decide)
  have e71 := fn 71 (by decide) (by decide) (by decide) (by decide) (by decide) (by decide) (by decide) (by decide) (by decide) (by decide)
  have e11 := fn 11 (by decide) (by decide) (by decide) (by decide) (by decide) (by decide) (by decide) (by decide) (by decide) (by decide)
  have e26 := fn 26 (by decide) (by decide) (by decide) (by decide) (by decide) (by decide) (by decide) (by decide) (by decide) (by decide)
  have R1 : kRf (wT W (xn h)) (kRet1 c (kT W) k o) := by
    refine ⟨fun i hi => ?_, fun i => ?_, fun i q1 q2 => ?_, fun i q1 q2 => ?_, hT⟩
    · rw [e14]; exact R.1 i hi
    · rw [e70]; exact R.2.1 i
    · rw [e11]; exact R.2.2.1 i q1 q2
    · rw [e26]; exact R.2.2.2.1 i q1 q2
  have hl1 : kLs (wT W (xn h)) (kRet1 c (kT W) k o) n := by
    obtain ⟨l1, l2, l3, l4, l5, l6⟩ := hl
    exact ⟨by rw [e71]; exact l1, l2, l3, l4, fun i hi => by rw [e70]; exact l5 i hi, fun i hi => by rw [e70]; exact l6 i hi⟩
  have hk1 : kRet1 c (kT W) k o 1 o' = nI 3 := by
    unfold kRet1 kMkS
    rw [tNew_ne (by omega)]
    exact p2
  obtain ⟨W', h', e, q1, q2, q3, q4, q5, q6⟩ := t_K_putNew (z := z) (W := wT W (xn h)) (h := kH2 h (kThE W (xn h) (kT W) k (mSizeK k) o) k) (c := kRet1 c (kT W) k o) (th := kT W) (r := nI 7) (b := 0) (p := nI j) ok1 R1 hz hl1 hn hC (show o' < kT W + 1 by omega) hk1 (Nat.mod_lt b (by decide)) (Nat.lt_succ_self _) (by rw [ej]; exact j2)
  refine ⟨W', h', ?_, kFr.mono (kFr.tr fr1 q1) (by decide) (by decide), ?_, q3, q4, q5⟩
  · refine E_K_retype_148 z _ _ _ _ _ _ _ _ _ _ ?_
    have e0 : xwr (kPut W h c) (kg W 5 o) 5 5 (.int (c 3 o + mTakes k)) = some (kPut W h (sS c 3 o (c 3 o + mTakes k))) := kw_used ok o2 _
    unfold D_K_retype_148
    rw [t_K_needState (by decide), xclV_some, Option.bind_some, kr_used ok o2, Option.bind_some, e0, Option.bind_some, kisK ok, Option.bind_some, mk]
    show xclR (some (.inl (some (va_rf (some (xn h)))), _)) _ = _
    rw [xclR_some]
    have cn := t_C_new (z := z) (kPut (wT W (xn h)) (kH2 h (kThE W (xn h) (kT W) k (mSizeK k) o) k) (kRet1 c (kT W) k o)) 7 (some (xn h)) (some (kg W 1 j)) (nI 7) 0
    rw [xlet_eq, bc_7k, ic_0]
    show xclC (f_C_new z [.ref (xn (kPut (wT W (xn h)) (kH2 h (kThE W (xn h) (kT W) k (mSizeK k) o) k) (kRet1 c (kT W) k o))), va_rf (some (xn h)), .int (nI 7), .int 0, va_rf (some (kg W 1 j))] (xpush (kPut (wT W (xn h)) (kH2 h (kThE W (xn h) (kT W) k (mSizeK k) o) k) (kRet1 c (kT W) k o)) 7 (.inr (1, [.null, .int 0, .int 0, .null, .null, .int 0, .int 0])))) _ = _
    rw [cn, xclC_some, kPut_push ok1, kPut_n]
    have g5 : kg (wT W (xn h)) 5 (kT W) = xn h := by rw [wT_g, if_pos ⟨rfl, rfl⟩]
    have ec : (Sum.inr (1, [va_rf (some (xn h)), .int (nI 7), .int 0, va_rf (some (kg W 1 j)), .null, .int 0, .int 0]) : va_E) = kCapE (wT W (xn h)) (kT W) (nI 7) 0 (nI j) := by
      unfold kCapE
      rw [g5, wT_rc, kRC_n j1 (by omega)]
      rfl
    have g0 : kg (wT W (xn h)) 0 0 = kg W 0 0 := wT_gn (by decide) (by decide)
    have gt : kg (wT W (xn h)) 5 o' = kg W 5 o' := wT_gj (by omega)
    rw [g0, gt, show kC (wT W (xn h)) = kC W from rfl] at e
    rw [ec, t_K_slotOf (by omega), xclI_some, ← g0, kisK (kOk_push ok1 _ _), Option.bind_some, g0]
    show xclV (f_K_put z [.ref (kg W 0 0), .ref (xn (kH2 h (kThE W (xn h) (kT W) k (mSizeK k) o) k)), .ref (kg W 5 o'), .int (nI (b % 8))] _) _ = _
    rw [e, xclV_some, Option.bind_some]
    have g5' : kg W' 5 (kT W) = xn h := by
      rw [q2.1 5 (kT W) (by omega) (kDom5 (Nat.lt_succ_self _)), g5]
    have rr := kr_number (c := kDerS (kRet1 c (kT W) k o) (kC W + 1) (kT W) (nI 7) 0 (nI j) o' (b % 8) n) q1.1 (show kT W < kT W' by rw [q3]; exact Nat.lt_succ_self _)
    rw [g5'] at rr
    rw [rr, Option.bind_some]
    rfl
  · refine kXt.tr (W' := wT W (xn h)) (Nat.le_succ _) (Nat.le_refl _) ⟨fun f i q D => ?_, hl.2.2.1, Or.inl rfl⟩ q2
    rw [wT_g, if_neg (fun y => by rcases D with ⟨e, hi⟩ | ⟨e, hi, hi2⟩ | ⟨e, hi, hi2⟩ | ⟨e, hi⟩ | ⟨e, hi⟩ <;> omega), if_neg (fun y => by rcases D with ⟨e, hi⟩ | ⟨e, hi, hi2⟩ | ⟨e, hi, hi2⟩ | ⟨e, hi⟩ | ⟨e, hi⟩ <;> omega)]
theorem t_K_retype (K : kP z W h c n) (Q : kT W < 50 → kRg W c) {a b : Nat} {k : Int32} (h0 : mNow c ≠ 0) (ha : a < 72) (hb : b < 72) (h3 : rIn k 0 (nI 3)) (hT : kT W ≤ 50) (hm : c 69 0 = nI (kT W - 10)) (h10 : ¬ c 1 0 = 0) (U : ∀ o, o < kT W → kUs c o) : kDone z W h c (f_K_retype z [.ref (kg W 0 0), .int (nI a), .int k, .int (nI b)] (kPut W h c)) (mRetG c (kC W) (kT W) (mNow c) a b k) (fun W' c' => ∃ o', kTab c (mNow c) b = some o' ∧ o' < kT W ∧ c 1 o' = nI 3 ∧ c 14 (8 * o' + b % 8) = 0 ∧ kT W < 50 ∧ kT W' = kT W + 1 ∧ kC W' = kC W + 1 ∧ n + 1 ≤ kcap W' ∧ c' = kDerS (kRet1 c (kT W) k (vN (c 8 (vN (mCapa c (mNow c) a))))) (kC W + 1) (kT W) (nI 7) 0 (nI (vN (mCapa c (mNow c) a))) o' (b % 8) n) := by
  have K0 := K
  obtain ⟨ok, F, A, R, hl, hz, hn, hC⟩ := K
  have t1 := mNow_pos h0
  have t2 := mNow_lt c
  have go : ∀ r, B_K_retype_34 z (kg W 0 0) (nI a) k (nI b) (some (kg W 2 (mNow c))) 1 (kPut W h c) = some r → f_K_retype z [.ref (kg W 0 0), .int (nI a), .int k, .int (nI b)] (kPut W h c) = some r := by
    intro r q
    refine E_K_retype z _ _ _ _ _ _ ?_
    unfold D_K_retype_0
    rw [kisK ok, Option.bind_some, t_K_actor ok h0, xclR_some, t_K_isAddress, xclI_some, rAd_if (rAd_nI ha), if_neg (by decide), ic_0, ic_3, t_K_isWithin, xclI_some, rIn_if h3, if_neg (by decide), t_K_isAddress, xclI_some, rAd_if (rAd_nI hb), if_neg (by decide), ic_1]
    exact q
  unfold mRetG
  by_cases c0 : mCapa c (mNow c) a = 0
  · rw [if_pos c0]
    refine kD_thr 2 (by decide) (by decide) rfl (go _ (E_K_retype_34 z _ _ _ _ _ _ _ _ ?_))
    unfold D_K_retype_34
    rw [t_K_needNumbers (by decide), xclV_some]
    show xclR (f_K_capabilityAt z [.ref (kg W 2 (mNow c)), .int (nI a)] (kPut W h c)) _ = _
    rw [t_K_capabilityAt0 ok F t1 t2 ha c0, xclR_thr]
    rfl
  · rw [if_neg c0, mPlace_tab]
    obtain ⟨j1, j2⟩ := kCapN F t1 t2 ha c0
    have q1 := t_K_capabilityAt (z := z) ok F t1 t2 ha c0
    have hth := F.2.2.1 _ j1 j2
    generalize hj : vN (mCapa c (mNow c) a) = j at j1 j2 q1 hth ⊢
    generalize hoe : vN (c 8 j) = o at hth ⊢
    cases e1 : kTab c (mNow c) b with
    | none =>
      rw [Option.map_none]
      refine kD_thr 2 (by decide) (by decide) rfl (go _ (E_K_retype_34 z _ _ _ _ _ _ _ _ ?_))
      unfold D_K_retype_34
      rw [t_K_needNumbers (by decide), xclV_some]
      show xclR (f_K_capabilityAt z [.ref (kg W 2 (mNow c)), .int (nI a)] (kPut W h c)) _ = _
      rw [q1, xclR_some]
      show xclR (f_K_tableAt z [.ref (kg W 2 (mNow c)), .int (nI b)] (kPut W h c)) _ = _
      rw [t_K_tableAt0 ok F t1 t2 hb e1, xclR_thr]
      rfl
    | some o' =>
      obtain ⟨p1, p2⟩ := kTab_ok F t1 t2 hb e1
      have hmm : b % 8 < 8 := Nat.mod_lt _ (by decide)
      have ho : o < kT W := by rw [← hoe]; exact hth.2
      rw [Option.map_some]
      dsimp only
      have go2 : ∀ (x : Int32) r, (if c 1 o = 0 then x = 1 else x = 0) → B_K_retype_73 z (kg W 0 0) k (nI b) (some (kg W 1 j)) (some (kg W 5 o')) (some (kg W 5 o)) x (kPut W h c) = some r → f_K_retype z [.ref (kg W 0 0), .int (nI a), .int k, .int (nI b)] (kPut W h c) = some r := by
        intro x r hx q
        refine go _ (E_K_retype_34 z _ _ _ _ _ _ _ _ ?_)
        unfold D_K_retype_34
        rw [t_K_needNumbers (by decide), xclV_some]
        show xclR (f_K_capabilityAt z [.ref (kg W 2 (mNow c)), .int (nI a)] (kPut W h c)) _ = _
        rw [q1, xclR_some]
        show xclR (f_K_tableAt z [.ref (kg W 2 (mNow c)), .int (nI b)] (kPut W h c)) _ = _
        rw [t_K_tableAt ok F t1 t2 hb e1, xclR_some, Option.bind_some, kr_thing ok j1 j2, Option.bind_some, Option.bind_some, hoe, kr_kind ok ho, Option.bind_some, ic_0, ic_1]
        by_cases k1 : c 1 o = 0
        · rw [if_neg (fun w => w k1)]
          rw [if_pos k1] at hx
          rw [hx] at q
          exact q
        · rw [if_pos k1]
          rw [if_neg k1] at hx
          rw [hx] at q
          exact q
      by_cases k1 : c 1 o = 0
      · rw [if_neg (fun w => w k1)]
        by_cases k2 : c 9 j &&& nI 2 = nI 2
        · rw [if_neg (fun w => w k2)]
          have go3 : ∀ r, B_K_retype_96 z (kg W 0 0) k (nI b) (some (kg W 1 j)) (some (kg W 5 o')) (some (kg W 5 o)) (mTakes k) (kPut W h c) = some r → f_K_retype z [.ref (kg W 0 0), .int (nI a), .int k, .int (nI b)] (kPut W h c) = some r := by
            intro r q
            refine go2 1 r (by rw [if_pos k1]) (E_K_retype_73 z _ _ _ _ _ _ _ _ _ ?_)
            unfold D_K_retype_73
            rw [t_K_needKind (by decide), xclV_some]
            show xclV (f_K_needRights z [.ref (kg W 1 j), .int (Int32.ofInt 2)] (kPut W h c)) _ = _
            rw [ic_2, t_K_needRights ok j1 j2 k2, xclV_some, ic_3, ic_1]
            have e91 : mTakes k = nI 4 → B_K_retype_91 z (kg W 0 0) k (nI b) (some (kg W 1 j)) (some (kg W 5 o')) (some (kg W 5 o)) (kPut W h c) = some r := by
              intro et
              refine E_K_retype_91 z _ _ _ _ _ _ _ _ ?_
              unfold D_K_retype_91
              rw [ic_4, ← et]
              exact q
            by_cases r0 : k = 0
            · rw [if_pos r0]
              exact e91 (if_pos (Or.inl r0))
            · rw [if_neg r0]
              by_cases r3 : k = nI 3
              · rw [if_neg (fun w => w r3)]
                exact e91 (if_pos (Or.inr r3))
              · rw [if_pos r3]
                have : mTakes k = 1 := if_neg (by rintro (w | w); exact r0 w; exact r3 w)
                rw [this] at q
                exact q
          by_cases k3 : c 14 (8 * o' + b % 8) = 0
          · obtain ⟨sz, us, u1, u2, u3, u4⟩ := U o ho
            obtain ⟨tk, v1, v2⟩ : ∃ tk, mTakes k = nI tk ∧ tk ≤ 4 := by
              by_cases r : k = 0 ∨ k = nI 3
              · exact ⟨4, if_pos r, by decide⟩
              · exact ⟨1, if_neg r, by decide⟩
            have go4 : ∀ (x : Int32) r, (if sz < us + tk then x = 0 else x = 1) → B_K_retype_131 z (kg W 0 0) k (nI b) (some (kg W 1 j)) (some (kg W 5 o')) (some (kg W 5 o)) (mTakes k) x (kPut W h c) = some r → f_K_retype z [.ref (kg W 0 0), .int (nI a), .int k, .int (nI b)] (kPut W h c) = some r := by
              intro x r hx q
              refine go3 r (E_K_retype_96 z _ _ _ _ _ _ _ _ _ ?_)
              unfold D_K_retype_96
              rw [t_K_slotOf (by omega), xclI_some, Option.bind_some, kisT ok p1, Option.bind_some, t_T_isFree ok p1 hmm, xclI_some, show (if c 1 o' = nI 3 ∧ c 14 (8 * o' + b % 8) = 0 then (1 : Int32) else 0) = 1 from if_pos ⟨p2, k3⟩, t_K_needState (by decide), xclV_some, Option.bind_some, kr_size ok ho, Option.bind_some, kr_used ok ho, Option.bind_some, ic_0, ic_1]
              rw [v1] at q ⊢
              rw [u1, u2, pk_sub u3]
              by_cases r5 : sz < us + tk
              · rw [if_pos (nI_lt (by omega) (by omega))]
                rw [if_pos r5] at hx
                rw [hx] at q
                exact q
              · rw [if_neg (nI_nlt (by omega) (by omega))]
                rw [if_neg r5] at hx
                rw [hx] at q
                exact q
            have es : (c 2 o < c 3 o + mTakes k) ↔ sz < us + tk := by
              rw [u1, u2, v1, nI_add]
              exact nI_ltI (by omega) (by omega)
            by_cases k4 : sz < us + tk
            · rw [if_pos (Or.inr (Or.inl (es.mpr k4)))]
              refine kD_thr 4 (by decide) (by decide) rfl (go4 0 _ (by rw [if_pos k4]) (E_K_retype_131 z _ _ _ _ _ _ _ _ _ _ ?_))
              unfold D_K_retype_131
              rw [t_K_needState0 ok, xclV_thr]
              rfl
            · have go5 : ∀ (x : Int32) r, (if kT W = 50 then x = 0 else x = 1) → B_K_retype_148 z (kg W 0 0) k (nI b) (some (kg W 1 j)) (some (kg W 5 o')) (some (kg W 5 o)) (mTakes k) x (kPut W h c) = some r → f_K_retype z [.ref (kg W 0 0), .int (nI a), .int k, .int (nI b)] (kPut W h c) = some r := by
                intro x r hx q
                refine go4 1 r (by rw [if_neg k4]) (E_K_retype_131 z _ _ _ _ _ _ _ _ _ _ ?_)
                unfold D_K_retype_131
                rw [t_K_needState (by decide), xclV_some, kr_kmade ok, Option.bind_some, bc_40k, hm, ic_0, ic_1]
                by_cases r5 : kT W = 50
                · rw [if_pos (nI_le (by omega) (by omega))]
                  rw [if_pos r5] at hx
                  rw [hx] at q
                  exact q
                · rw [if_neg (nI_ge (by have := F.1.1; omega) (by decide))]
                  rw [if_neg r5] at hx
                  rw [hx] at q
                  exact q
              by_cases k5 : kT W = 50
              · rw [if_pos (Or.inr (Or.inr k5))]
                refine kD_thr 4 (by decide) (by decide) rfl (go5 0 _ (by rw [if_pos k5]) (E_K_retype_148 z _ _ _ _ _ _ _ _ _ _ ?_))
                unfold D_K_retype_148
                rw [t_K_needState0 ok, xclV_thr]
                rfl
              · rw [if_neg (by rintro (w | w | w); exact w k3; exact k4 (es.mp w); exact k5 w)]
                have o1 : 1 ≤ o := Nat.pos_of_ne_zero fun w => h10 (by rw [← w]; exact k1)
                obtain ⟨W', h', e, w1, w2, w3, w4, w5⟩ := t_ret148 (z := z) (k := k) K0 (Q (by omega)) j1 j2 o1 ho p1 p2 hb (by omega) hm
                have hw : nI (kT W) - nI 10 + 1 = nI (kT W - 9) := by
                  have := F.1.1
                  rw [pk_sub (by omega), nI_1, show kT W - 10 + 1 = kT W - 9 by omega]
                refine kD_ans (W' := W') (h' := h') rfl ?_ w1 w2 ⟨o', rfl, p1, p2, k3, by omega, w3, w4, w5, rfl⟩
                rw [show ((0, nI (kT W) - nI 10 + 1, mRetS c (kC W) (8 * o' + b % 8) o (kT W) j k) : mR).2.1 = nI (kT W - 9) from hw]
                exact go5 1 _ (by rw [if_neg k5]) e
          · rw [if_pos (Or.inl k3)]
            refine kD_thr 4 (by decide) (by decide) rfl (go3 _ (E_K_retype_96 z _ _ _ _ _ _ _ _ _ ?_))
            unfold D_K_retype_96
            rw [t_K_slotOf (by omega), xclI_some, Option.bind_some, kisT ok p1, Option.bind_some, t_T_isFree ok p1 hmm, xclI_some, show (if c 1 o' = nI 3 ∧ c 14 (8 * o' + b % 8) = 0 then (1 : Int32) else 0) = 0 from if_neg (fun w => k3 w.2), t_K_needState0 ok, xclV_thr]
            rfl
        · rw [if_pos k2]
          refine kD_thr 3 (by decide) (by decide) rfl (go2 1 _ (by rw [if_pos k1]) (E_K_retype_73 z _ _ _ _ _ _ _ _ _ ?_))
          unfold D_K_retype_73
          rw [t_K_needKind (by decide), xclV_some]
          show xclV (f_K_needRights z [.ref (kg W 1 j), .int (Int32.ofInt 2)] (kPut W h c)) _ = _
          rw [ic_2, t_K_needRights0 ok j1 j2 k2, xclV_thr]
          rfl
      · rw [if_pos k1]
        refine kD_thr 1 (by decide) (by decide) rfl (go2 0 _ (by rw [if_neg k1]) (E_K_retype_73 z _ _ _ _ _ _ _ _ _ ?_))
        unfold D_K_retype_73
        rw [t_K_needKind0 ok, xclV_thr]
        rfl
end KX
