/-! The class's actions: copy, mint, move. -/
/-- what an action finds -/
def kP (z : xzs) (W : kW) (h : xH) (c : mS) (n : Nat) : Prop := kOk W h ∧ kWf W c ∧ kWA W c ∧ kRf W c ∧ kLs W c n ∧ z.1 < h.1 ∧ n < 1200 ∧ kC W + 1 < 1200
/-- an action of the class ends as q says: it throws, or it answers and P holds of what is then -/
def kDone (z : xzs) (W : kW) (h : xH) (c : mS) (o : Option xR) (q : mR) (P : kW → mS → Prop) : Prop := (q.1 ≠ 0 ∧ o = kThr z W h c (7 + vN q.1)) ∨ (q.1 = 0 ∧ ∃ W' h' c', o = some (.inl (some (.int q.2.1)), kPut W' h' c') ∧ kFr 4 2100 W h W' h' ∧ kXt W W' ∧ P W' c')
section KL
variable {z : xzs} {W : kW} {h : xH} {c : mS} {n : Nat}
theorem kD_thr {o : Option xR} {q : mR} {P : kW → mS → Prop} (k : Nat) (hk : 0 < k) (hk2 : k < 5) (hq : q.1 = nI k) (ho : o = kThr z W h c (7 + k)) : kDone z W h c o q P := by
  refine Or.inl ⟨by rw [hq]; exact nI_ne0 hk (by omega), ?_⟩
  rw [hq, vN_nI (by omega)]
  exact ho
theorem kD_ans {o : Option xR} {q : mR} {P : kW → mS → Prop} {W' : kW} {h' : xH} {c' : mS} (hq : q.1 = 0) (ho : o = some (.inl (some (.int q.2.1)), kPut W' h' c')) (fr : kFr 4 2100 W h W' h') (xt : kXt W W') (hp : P W' c') : kDone z W h c o q P := Or.inr ⟨hq, W', h', c', ho, fr, xt, hp⟩
theorem kD_same {o : Option xR} {q : mR} {P : kW → mS → Prop} {c' : mS} (K : kP z W h c n) (hq : q.1 = 0) (ho : o = some (.inl (some (.int q.2.1)), kPut W h c')) (hp : P W c') : kDone z W h c o q P := Or.inr ⟨hq, W, h, c', ho, kFr.mono (kFr.rf K.1) (by decide) (by decide), kXt.rf K.2.2.2.2.1.2.2.1, hp⟩
theorem rAd_if {p : Int32} (hp : rAd p) : (if p < 0 ∨ nI 71 < p then (0 : Int32) else 1) = 1 := if_neg hp
theorem rIn_if {p a b : Int32} (hp : rIn p a b) : (if p < a ∨ b < p then (0 : Int32) else 1) = 1 := if_neg hp
theorem rAd_no {p : Int32} (hp : ¬ rAd p) : (if p < 0 ∨ nI 71 < p then (0 : Int32) else 1) = 0 := if_pos (Classical.byContradiction hp)
theorem rIn_no {p a b : Int32} (hp : ¬ rIn p a b) : (if p < a ∨ b < p then (0 : Int32) else 1) = 0 := if_pos (Classical.byContradiction hp)
theorem bc_7k : (Int8.ofInt 7).toInt32 = nI 7 := by decide
-- copy
theorem t_K_copy_bad (K : kP z W h c n) {p1 p2 p3 : Int32} (hr : mNow c = 0 ∨ ¬ (rAd p1 ∧ rAd p2 ∧ rIn p3 0 (nI 7))) (P : kW → mS → Prop) : kDone z W h c (f_K_copy z [.ref (kg W 0 0), .int p1, .int p2, .int p3] (kPut W h c)) (mRef c) P := by
  have ok := K.1
  by_cases h0 : mNow c = 0
  · refine kD_thr 4 (by decide) (by decide) (if_pos h0) ?_
    refine E_K_copy z _ _ _ _ _ _ ?_
    unfold D_K_copy_0
    rw [kisK ok, Option.bind_some, t_K_actor0 ok h0, xclR_thr]
    rfl
  · refine kD_thr 1 (by decide) (by decide) (if_neg h0) ?_
    refine E_K_copy z _ _ _ _ _ _ ?_
    have e35 : B_K_copy_35 z (kg W 0 0) p1 p2 p3 (some (kg W 2 (mNow c))) 0 (kPut W h c) = kThr z W h c 8 := by
      refine E_K_copy_35 z _ _ _ _ _ _ _ _ ?_
      unfold D_K_copy_35
      rw [t_K_needNumbers0 ok, xclV_thr]
      rfl
    have e34 : B_K_copy_34 z (kg W 0 0) p1 p2 p3 (some (kg W 2 (mNow c))) (kPut W h c) = kThr z W h c 8 := by
      refine E_K_copy_34 z _ _ _ _ _ _ _ ?_
      unfold D_K_copy_34
      exact e35
    unfold D_K_copy_0
    rw [kisK ok, Option.bind_some, t_K_actor ok h0, xclR_some, t_K_isAddress, xclI_some]
    by_cases r1 : rAd p1
    · rw [rAd_if r1, if_neg (by decide), t_K_isAddress, xclI_some]
      by_cases r2 : rAd p2
      · rw [rAd_if r2, if_neg (by decide), ic_0, bc_7k, t_K_isWithin, xclI_some, rIn_no (fun r3 => hr.elim h0 (fun w => w ⟨r1, r2, r3⟩)), if_pos rfl]
        exact e34
      · rw [rAd_no r2, if_pos rfl]
        exact e34
    · rw [rAd_no r1, if_pos rfl]
      exact e34
/-- a derived capability stands in a new place -/
def kAdd1 (W : kW) (c : mS) (n th : Nat) (r b p : Int32) (o i : Nat) (W' : kW) (c' : mS) : Prop := th < kT W ∧ o < kT W ∧ i < 8 ∧ c 1 o = nI 3 ∧ c 14 (8 * o + i) = 0 ∧ kT W' = kT W ∧ kC W' = kC W + 1 ∧ n + 1 ≤ kcap W' ∧ c' = kDerS c (kC W + 1) th r b p o i n
theorem kCapN (F : kWf W c) {t a : Nat} (h1 : 1 ≤ t) (h2 : t < 4) (ha : a < 72) (e : ¬ mCapa c t a = 0) : 1 ≤ vN (mCapa c t a) ∧ vN (mCapa c t a) ≤ kC W := by
  obtain ⟨q1, q2⟩ := mCapa_ok F h1 h2 ha
  refine ⟨?_, by omega⟩
  refine Nat.pos_of_ne_zero fun w => e ?_
  rw [q1, w, nI_0]
theorem mNow_pos {c : mS} (h0 : mNow c ≠ 0) : 1 ≤ mNow c := Nat.pos_of_ne_zero h0
theorem t_K_copy (K : kP z W h c n) {a b : Nat} {p3 : Int32} (h0 : mNow c ≠ 0) (ha : a < 72) (hb : b < 72) (h3 : rIn p3 0 (nI 7)) : kDone z W h c (f_K_copy z [.ref (kg W 0 0), .int (nI a), .int (nI b), .int p3] (kPut W h c)) (mCopyG c (kC W) (mNow c) a b p3) (fun W' c' => ∃ o, kTab c (mNow c) b = some o ∧ kAdd1 W c n (vN (c 8 (vN (mCapa c (mNow c) a)))) (c 9 (vN (mCapa c (mNow c) a)) &&& p3) (c 10 (vN (mCapa c (mNow c) a))) (nI (vN (mCapa c (mNow c) a))) o (b % 8) W' c') := by
  obtain ⟨ok, F, A, R, hl, hz, hn, hC⟩ := K
  have t1 := mNow_pos h0
  have t2 := mNow_lt c
  have go : ∀ r, B_K_copy_35 z (kg W 0 0) (nI a) (nI b) p3 (some (kg W 2 (mNow c))) 1 (kPut W h c) = some r → f_K_copy z [.ref (kg W 0 0), .int (nI a), .int (nI b), .int p3] (kPut W h c) = some r := by
    intro r q
    refine E_K_copy z _ _ _ _ _ _ ?_
    unfold D_K_copy_0
    rw [kisK ok, Option.bind_some, t_K_actor ok h0, xclR_some, t_K_isAddress, xclI_some, rAd_if (rAd_nI ha), if_neg (by decide), t_K_isAddress, xclI_some, rAd_if (rAd_nI hb), if_neg (by decide), ic_0, bc_7k, t_K_isWithin, xclI_some, rIn_if h3, if_neg (by decide), ic_1]
    exact q
  unfold mCopyG
  by_cases c0 : mCapa c (mNow c) a = 0
  · rw [if_pos c0]
    refine kD_thr 2 (by decide) (by decide) rfl (go _ (E_K_copy_35 z _ _ _ _ _ _ _ _ ?_))
    unfold D_K_copy_35
    rw [t_K_needNumbers (by decide), xclV_some]
    show xclR (f_K_capabilityAt z [.ref (kg W 2 (mNow c)), .int (nI a)] (kPut W h c)) _ = _
    rw [t_K_capabilityAt0 ok F t1 t2 ha c0, xclR_thr]
    rfl
  · rw [if_neg c0, mPlace_tab]
    obtain ⟨j1, j2⟩ := kCapN F t1 t2 ha c0
    have q1 := t_K_capabilityAt (z := z) ok F t1 t2 ha c0
    cases e1 : kTab c (mNow c) b with
    | none =>
      rw [Option.map_none]
      refine kD_thr 2 (by decide) (by decide) rfl (go _ (E_K_copy_35 z _ _ _ _ _ _ _ _ ?_))
      unfold D_K_copy_35
      rw [t_K_needNumbers (by decide), xclV_some]
      show xclR (f_K_capabilityAt z [.ref (kg W 2 (mNow c)), .int (nI a)] (kPut W h c)) _ = _
      rw [q1, xclR_some]
      show xclR (f_K_tableAt z [.ref (kg W 2 (mNow c)), .int (nI b)] (kPut W h c)) _ = _
      rw [t_K_tableAt0 ok F t1 t2 hb e1, xclR_thr]
      rfl
    | some o =>
      obtain ⟨o1, o2⟩ := kTab_ok F t1 t2 hb e1
      have hm : b % 8 < 8 := Nat.mod_lt _ (by decide)
      rw [Option.map_some]
      by_cases c1 : c 14 (8 * o + b % 8) = 0
      · have hth := F.2.2.1 _ j1 j2
        obtain ⟨W', h', e, p1, p2, p3', p4, p5⟩ := t_K_derive (z := z) (r := p3) (b := c 10 (vN (mCapa c (mNow c) a))) ok R hz hl hn hC o1 o2 hm j1 j2 hth.1 hth.2
        refine kD_ans (W' := W') (h' := h') ?_ (go _ (E_K_copy_35 z _ _ _ _ _ _ _ _ ?_)) (kFr.mono p1 (by decide) (by decide)) p2 ⟨o, rfl, hth.2, o1, hm, o2, c1, p3', p4, p5, rfl⟩
        · dsimp only
          rw [if_neg (fun w => w c1)]
        · unfold D_K_copy_35
          rw [t_K_needNumbers (by decide), xclV_some]
          show xclR (f_K_capabilityAt z [.ref (kg W 2 (mNow c)), .int (nI a)] (kPut W h c)) _ = _
          rw [q1, xclR_some]
          show xclR (f_K_tableAt z [.ref (kg W 2 (mNow c)), .int (nI b)] (kPut W h c)) _ = _
          rw [t_K_tableAt ok F t1 t2 hb e1, xclR_some, t_K_slotOf (by omega), xclI_some, Option.bind_some, kisT ok o1, Option.bind_some, t_T_isFree ok o1 hm, xclI_some, if_pos ⟨o2, c1⟩, t_K_needState (by decide), xclV_some, Option.bind_some, kr_badge ok j1 j2, Option.bind_some, t_K_slotOf (by omega), xclI_some, kisK ok, Option.bind_some, e, xclI_some]
          dsimp only
          rw [if_neg (fun w => w c1)]
      · refine kD_thr 4 (by decide) (by decide) ?_ (go _ (E_K_copy_35 z _ _ _ _ _ _ _ _ ?_))
        · dsimp only
          rw [if_pos c1]
        · unfold D_K_copy_35
          rw [t_K_needNumbers (by decide), xclV_some]
          show xclR (f_K_capabilityAt z [.ref (kg W 2 (mNow c)), .int (nI a)] (kPut W h c)) _ = _
          rw [q1, xclR_some]
          show xclR (f_K_tableAt z [.ref (kg W 2 (mNow c)), .int (nI b)] (kPut W h c)) _ = _
          rw [t_K_tableAt ok F t1 t2 hb e1, xclR_some, t_K_slotOf (by omega), xclI_some, Option.bind_some, kisT ok o1, Option.bind_some, t_T_isFree ok o1 hm, xclI_some, if_neg (fun w => c1 w.2), t_K_needState0 ok, xclV_thr]
          rfl
end KL
