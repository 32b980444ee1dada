/-! The class's actions: what came of a capability; look, count; the names, call. -/
def kDes (c : mS) (top : Nat) : Nat → Nat → Nat
  | 0, _ => 0
  | n + 1, i => (if mCame c (vN (c 70 i)) top = true then 1 else 0) + kDes c top n (i + 1)
def kYg (c : mS) (top : Nat) : Nat → Nat
  | 0 => 0
  | m + 1 => if mCame c (vN (c 70 m)) top = true then vN (c 70 m) else kYg c top m
section KU
variable {z : xzs} {W : kW} {h : xH} {c : mS} {n : Nat}
theorem kLs_rc (hl : kLs W c n) (hC : kC W < 1200) {i : Nat} (hi : i < n) : kRC W (c 70 i) = some (kg W 1 (vN (c 70 i))) ∧ 1 ≤ vN (c 70 i) ∧ vN (c 70 i) ≤ kC W := by
  obtain ⟨⟨p1, p2⟩, p3⟩ := hl.2.2.2.2.1 i hi
  exact ⟨by rw [kRC, if_neg (by rw [p1]; exact nI_ne0 p3 (by omega))], p3, by omega⟩
theorem t_hmc (ok : kOk W h) (F : kWf W c) (hl : kLs W c n) {top : Nat} (h1 : 1 ≤ top) (h2 : top ≤ kC W) : ∀ (m i k : Nat), i + m = n → B_K_howManyCameOf_4 z (kg W 0 0) (some (kg W 1 top)) (nI k) (nI i) (kPut W h c) = some (.inl (some (.int (nI (k + kDes c top m i)))), kPut W h c)
  | 0, i, k, hi => by
    refine E_K_howManyCameOf_4 z _ _ _ _ _ _ ?_
    have hcap : n ≤ 40000 := by have := hl.2.1; have := hl.2.2.2.1; omega
    unfold D_K_howManyCameOf_4
    rw [kr_capabilities ok, Option.bind_some, Option.bind_some, kisA ok, Option.bind_some, t_A_size ok, xclI_some, hl.1, if_pos (nI_le (by omega) (by omega))]
    rfl
  | m + 1, i, k, hi => by
    refine E_K_howManyCameOf_4 z _ _ _ _ _ _ ?_
    have hcap : n ≤ 40000 := by have := hl.2.1; have := hl.2.2.2.1; omega
    obtain ⟨r1, r2, r3⟩ := kLs_rc hl F.1.2.2 (show i < n by omega)
    have e36 : ∀ k', B_K_howManyCameOf_36 z (kg W 0 0) (some (kg W 1 top)) (nI k') (nI i) (kPut W h c) = some (.inl (some (.int (nI (k' + kDes c top m (i + 1))))), kPut W h c) := by
      intro k'
      refine E_K_howManyCameOf_36 z _ _ _ _ _ _ ?_
      unfold D_K_howManyCameOf_36
      rw [ic_1, nI_1]
      exact t_hmc ok F hl h1 h2 m (i + 1) k' (by omega)
    unfold D_K_howManyCameOf_4 kDes
    rw [kr_capabilities ok, Option.bind_some, Option.bind_some, kisA ok, Option.bind_some, t_A_size ok, xclI_some, hl.1, if_neg (nI_ge (by omega) (by omega)), kr_capabilities ok, Option.bind_some, Option.bind_some, kisA ok, Option.bind_some, t_A_get ok hl (by omega), xclR_some, r1, kcst ok r2 r3, Option.bind_some, Option.bind_some, kisC ok r2 r3, Option.bind_some]
    show xclI (f_C_cameOf z [.ref (kg W 1 (vN (c 70 i))), .ref (kg W 1 top)] (kPut W h c)) _ = _
    rw [t_C_cameOf ok F h1 h2 r2 r3, xclI_some]
    by_cases q : mCame c (vN (c 70 i)) top = true
    · rw [xb_same q, if_neg (by decide), if_pos q, ic_1, nI_1, e36, Nat.add_assoc]
    · rw [xb_not q, if_pos rfl, if_neg q, e36, Nat.zero_add]
theorem t_K_howManyCameOf (ok : kOk W h) (F : kWf W c) (hl : kLs W c n) {top : Nat} (h1 : 1 ≤ top) (h2 : top ≤ kC W) : f_K_howManyCameOf z [.ref (kg W 0 0), .ref (kg W 1 top)] (kPut W h c) = some (.inl (some (.int (nI (kDes c top n 0)))), kPut W h c) := by
  refine E_K_howManyCameOf z _ (some (kg W 1 top)) _ _ ?_
  unfold D_K_howManyCameOf_0
  rw [ic_0n]
  have := t_hmc (z := z) ok F hl h1 h2 n 0 0 (by omega)
  rw [Nat.zero_add] at this
  exact this
def kNo (W : kW) (k : Nat) : Option Nat := if k = 0 then none else some (kg W 1 k)
theorem t_yng (ok : kOk W h) (F : kWf W c) (hl : kLs W c n) {top : Nat} (h1 : 1 ≤ top) (h2 : top ≤ kC W) : ∀ m : Nat, m ≤ n → B_K_youngestThatCameOf_10 z (kg W 0 0) (some (kg W 1 top)) (nI m - 1) (kPut W h c) = some (.inl (some (va_rf (kNo W (kYg c top m)))), kPut W h c)
  | 0, _ => by
    refine E_K_youngestThatCameOf_10 z _ _ _ _ _ ?_
    unfold D_K_youngestThatCameOf_10
    rw [if_pos (by decide)]
    rfl
  | m + 1, hm => by
    refine E_K_youngestThatCameOf_10 z _ _ _ _ _ ?_
    have hcap : n ≤ 40000 := by have := hl.2.1; have := hl.2.2.2.1; omega
    obtain ⟨r1, r2, r3⟩ := kLs_rc hl F.1.2.2 (show m < n by omega)
    unfold D_K_youngestThatCameOf_10 kYg
    rw [nI_pred, if_neg (nI_pos (by omega)), kr_capabilities ok, Option.bind_some, Option.bind_some, kisA ok, Option.bind_some, t_A_get ok hl (by omega), xclR_some, r1, kcst ok r2 r3, Option.bind_some, Option.bind_some, kisC ok r2 r3, Option.bind_some]
    show xclI (f_C_cameOf z [.ref (kg W 1 (vN (c 70 m))), .ref (kg W 1 top)] (kPut W h c)) _ = _
    rw [t_C_cameOf ok F h1 h2 r2 r3, xclI_some]
    by_cases q : mCame c (vN (c 70 m)) top = true
    · rw [xb_same q, if_neg (by decide), if_pos q, kr_capabilities ok, Option.bind_some, Option.bind_some, kisA ok, Option.bind_some, t_A_get ok hl (by omega), xclR_some, r1, kcst ok r2 r3, Option.bind_some, kNo, if_neg (by omega)]
    · rw [xb_not q, if_pos rfl, if_neg q, ic_m1, kD_m]
      exact t_yng ok F hl h1 h2 m (by omega)
theorem t_K_youngest (ok : kOk W h) (F : kWf W c) (hl : kLs W c n) {top : Nat} (h1 : 1 ≤ top) (h2 : top ≤ kC W) : f_K_youngestThatCameOf z [.ref (kg W 0 0), .ref (kg W 1 top)] (kPut W h c) = some (.inl (some (va_rf (kNo W (kYg c top n)))), kPut W h c) := by
  refine E_K_youngestThatCameOf z _ (some (kg W 1 top)) _ _ ?_
  unfold D_K_youngestThatCameOf_0
  rw [kr_capabilities ok, Option.bind_some, Option.bind_some, kisA ok, Option.bind_some, t_A_size ok, xclI_some, hl.1, ic_1]
  exact t_yng ok F hl h1 h2 n (Nat.le_refl _)
-- look
def kLookV (c : mS) (n j o : Nat) (x : Int32) : Int32 := if x = 0 then c 1 o else if x = 1 then c 9 j else if x = 2 then c 10 j else if x = 3 then nI (kDes c j n 0) else if ¬ c 1 o = 0 then c 4 o else c 3 o
def kLookG (c : mS) (n t a : Nat) (x : Int32) : mR := if mCapa c t a = 0 then (nI 2, 0, c) else (0, kLookV c n (vN (mCapa c t a)) (vN (c 8 (vN (mCapa c t a)))) x, c)
theorem t_K_look_bad (K : kP z W h c n) {p1 p2 p3 : Int32} (hr : ¬ (rIn p1 1 (nI 3) ∧ rAd p2 ∧ rIn p3 0 (nI 4))) (P : kW → mS → Prop) : kDone z W h c (f_K_look z [.ref (kg W 0 0), .int p1, .int p2, .int p3] (kPut W h c)) (1, 0, c) P := by
  have ok := K.1
  refine kD_thr 1 (by decide) (by decide) rfl (E_K_look z _ _ _ _ _ _ ?_)
  have e27 : B_K_look_27 z (kg W 0 0) p1 p2 p3 (kPut W h c) = kThr z W h c 8 := by
    refine E_K_look_27 z _ _ _ _ _ _ ?_
    unfold D_K_look_27
    refine E_K_look_28 z _ _ _ _ _ _ _ ?_
    unfold D_K_look_28
    rw [ic_0, t_K_needNumbers0 ok, xclV_thr]
    rfl
  unfold D_K_look_0
  rw [t_K_isClient, xclI_some]
  by_cases r1 : rIn p1 1 (nI 3)
  · rw [rIn_if r1, if_neg (by decide), t_K_isAddress, xclI_some]
    by_cases r2 : rAd p2
    · rw [rAd_if r2, if_neg (by decide), ic_0, ic_4, t_K_isWithin, xclI_some, rIn_no (fun r3 => hr ⟨r1, r2, r3⟩), if_pos rfl]
      exact e27
    · rw [rAd_no r2, if_pos rfl]
      exact e27
  · rw [rIn_no r1, if_pos rfl]
    exact e27
theorem t_K_look (K : kP z W h c n) {t a : Nat} {x : Int32} (h1 : 1 ≤ t) (h2 : t < 4) (ha : a < 72) (hx : rIn x 0 (nI 4)) : kDone z W h c (f_K_look z [.ref (kg W 0 0), .int (nI t), .int (nI a), .int x] (kPut W h c)) (kLookG c n t a x) (fun W' c' => W' = W ∧ c' = c) := by
  have K0 := K
  obtain ⟨ok, F, A, R, hl, hz, hn, hC⟩ := K
  have e : t - 1 + 1 = t := by omega
  have go : ∀ r, (xclR (f_K_capabilityAt z [.ref (kg W 2 t), .int (nI a)] (kPut W h c)) fun r12 h11 => if x = 0 then r12.bind fun a13 => (rdR h11 a13 1 0).bind fun r14 => r14.bind fun a15 => (rdI h11 a15 5 0).bind fun x16 => some (.inl (some (.int x16)), h11) else if x = 1 then r12.bind fun a17 => (rdI h11 a17 1 1).bind fun x18 => some (.inl (some (.int x18)), h11) else if x = 2 then r12.bind fun a19 => (rdI h11 a19 1 2).bind fun x20 => some (.inl (some (.int x20)), h11) else if x = 3 then (xisO h11 (kg W 0 0) 0).bind fun _ => xclI (f_K_howManyCameOf z [.ref (kg W 0 0), va_rf r12] h11) fun x22 h21 => some (.inl (some (.int x22)), h21) else r12.bind fun a23 => (rdR h11 a23 1 0).bind fun r24 => r24.bind fun a25 => (xisO h11 a25 5).bind fun _ => xclI (f_T_content z [.ref a25] h11) fun x27 h26 => some (.inl (some (.int x27)), h26)) = some r → f_K_look z [.ref (kg W 0 0), .int (nI t), .int (nI a), .int x] (kPut W h c) = some r := by
    intro r q
    refine E_K_look z _ _ _ _ _ _ ?_
    unfold D_K_look_0
    rw [t_K_isClient, xclI_some, rIn_if (rIn_t h1 h2), if_neg (by decide), t_K_isAddress, xclI_some, rAd_if (rAd_nI ha), if_neg (by decide), ic_0, ic_4, t_K_isWithin, xclI_some, rIn_if hx, if_neg (by decide)]
    refine E_K_look_28 z _ _ _ _ _ _ _ ?_
    unfold D_K_look_28
    rw [ic_1, t_K_needNumbers (by decide), xclV_some, kr_clients ok, Option.bind_some, Option.bind_some]
    rw [show nI t - 1 = nI (t - 1) from kt_sub h1, ka_clients ok (show t - 1 < 3 by omega), e, Option.bind_some]
    exact q
  unfold kLookG
  by_cases c0 : mCapa c t a = 0
  · rw [if_pos c0]
    refine kD_thr 2 (by decide) (by decide) rfl (go _ ?_)
    rw [t_K_capabilityAt0 ok F h1 h2 ha c0, xclR_thr]
    rfl
  · rw [if_neg c0]
    obtain ⟨j1, j2⟩ := kCapN F h1 h2 ha c0
    have hth := F.2.2.1 _ j1 j2
    refine kD_same (c' := c) K0 rfl (go _ ?_) ⟨rfl, rfl⟩
    rw [t_K_capabilityAt ok F h1 h2 ha c0, xclR_some]
    show _ = (some (.inl (some (.int (kLookV c n (vN (mCapa c t a)) (vN (c 8 (vN (mCapa c t a)))) x))), kPut W h c) : Option xR)
    unfold kLookV
    by_cases e0 : x = 0
    · rw [if_pos e0, if_pos e0, Option.bind_some, kr_thing ok j1 j2, Option.bind_some, Option.bind_some, kr_kind ok hth.2, Option.bind_some]
    rw [if_neg e0, if_neg e0]
    by_cases e1 : x = 1
    · rw [if_pos e1, if_pos e1, Option.bind_some, kr_rights ok j1 j2, Option.bind_some]
    rw [if_neg e1, if_neg e1]
    by_cases e2 : x = 2
    · rw [if_pos e2, if_pos e2, Option.bind_some, kr_badge ok j1 j2, Option.bind_some]
    rw [if_neg e2, if_neg e2]
    by_cases e3 : x = 3
    · rw [if_pos e3, if_pos e3, kisK ok, Option.bind_some]
      show xclI (f_K_howManyCameOf z [.ref (kg W 0 0), .ref (kg W 1 (vN (mCapa c t a)))] (kPut W h c)) _ = _
      rw [t_K_howManyCameOf ok F hl j1 j2, xclI_some]
    rw [if_neg e3, if_neg e3, Option.bind_some, kr_thing ok j1 j2, Option.bind_some, Option.bind_some, kisT ok hth.2, Option.bind_some, t_T_content ok hth.2, xclI_some]
-- count
def kCntV (c : mS) (w : Int32) : Int32 := if w = 0 then c 71 0 else if w = 1 then c 69 0 else if w = 2 then c 68 0 else if w = 3 then c 36 0 else if w = 4 then c 37 0 else if w = 5 then nI (kFree c) else -1
theorem t_K_count (K : kP z W h c n) (w : Int32) : kDone z W h c (f_K_count z [.ref (kg W 0 0), .int w] (kPut W h c)) (0, kCntV c w, c) (fun W' c' => W' = W ∧ c' = c) := by
  have ok := K.1
  refine kD_same (c' := c) K rfl (E_K_count z _ _ _ _ ?_) ⟨rfl, rfl⟩
  show _ = (some (.inl (some (.int (kCntV c w))), kPut W h c) : Option xR)
  unfold D_K_count_0 kCntV
  by_cases e0 : w = 0
  · rw [if_pos e0, if_pos e0, kr_capabilities ok, Option.bind_some, Option.bind_some, kisA ok, Option.bind_some, t_A_size ok, xclI_some]
  rw [if_neg e0, if_neg e0]
  by_cases e1 : w = 1
  · rw [if_pos e1, if_pos e1, kr_kmade ok, Option.bind_some]
  rw [if_neg e1, if_neg e1]
  by_cases e2 : w = 2
  · rw [if_pos e2, if_pos e2, kr_stillThere ok, Option.bind_some]
  rw [if_neg e2, if_neg e2]
  by_cases e3 : w = 3
  · rw [if_pos e3, if_pos e3, kr_fileServer ok, Option.bind_some, Option.bind_some, kr_driver ok, Option.bind_some, Option.bind_some, kr_blocksRead ok, Option.bind_some]
  rw [if_neg e3, if_neg e3]
  by_cases e4 : w = 4
  · rw [if_pos e4, if_pos e4, kr_fileServer ok, Option.bind_some, Option.bind_some, kr_driver ok, Option.bind_some, Option.bind_some, kr_blocksWritten ok, Option.bind_some]
  rw [if_neg e4, if_neg e4]
  by_cases e5 : w = 5
  · rw [if_pos e5, if_pos e5, kr_fileServer ok, Option.bind_some, Option.bind_some, kisF ok, Option.bind_some, t_F_howManyFree ok, xclI_some]
  rw [if_neg e5, if_neg e5, ic_m1]
end KU
