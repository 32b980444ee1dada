/-! The class: addresses, the line, the waiting. -/
/-- the table in which an address lies -/
def kTab (c : mS) (t a : Nat) : Option Nat := if a < 8 then some (1 + t) else if vN (c 14 (8 * (1 + t) + a / 8 - 1)) = 0 ∨ ¬ c 1 (vN (c 8 (vN (c 14 (8 * (1 + t) + a / 8 - 1))))) = nI 3 then none else some (vN (c 8 (vN (c 14 (8 * (1 + t) + a / 8 - 1)))))
section KD
variable {z : xzs} {W : kW} {h : xH} {c : mS}
theorem mPlace_tab (c : mS) (t a : Nat) : mPlace c t a = (kTab c t a).map (fun o => 8 * o + a % 8) := by
  unfold mPlace kTab
  by_cases h1 : a < 8
  · rw [if_pos h1, if_pos h1, Option.map_some, Nat.mod_eq_of_lt h1]
  · rw [if_neg h1, if_neg h1]
    split
    · rfl
    · rfl
theorem kTab_ok (F : kWf W c) {t a o : Nat} (h1 : 1 ≤ t) (h2 : t < 4) (ha : a < 72) (e : kTab c t a = some o) : o < kT W ∧ c 1 o = nI 3 := by
  have hT := F.1.1
  unfold kTab at e
  split at e
  · cases e
    exact ⟨by omega, F.2.2.2.2 t h1 h2⟩
  · split at e
    · cases e
    · rename_i q1 q2
      cases e
      have q3 := F.2.1 (8 * (1 + t) + a / 8 - 1) (by omega)
      refine ⟨?_, ?_⟩
      · exact (F.2.2.1 _ (by have : ¬ vN (c 14 (8 * (1 + t) + a / 8 - 1)) = 0 := fun w => q2 (Or.inl w); omega) (by have := q3.2; omega)).2
      · exact Classical.byContradiction fun w => q2 (Or.inr w)
theorem t_K_reach (ok : kOk W h) (F : kWf W c) {t a : Nat} (h1 : 1 ≤ t) (h2 : t < 4) (ha : a < 72) : f_K_reach z [.ref (kg W 2 t), .int (nI a)] (kPut W h c) = some (.inl (some (va_rf ((kTab c t a).map (kg W 5)))), kPut W h c) := by
  have hT := F.1.1
  have hC := F.1.2.2
  refine E_K_reach z (some (kg W 2 t)) _ _ _ ?_
  have e56 : B_K_reach_56 z (kPut W h c) = some (.inl (some (va_rf none)), kPut W h c) := by
    refine E_K_reach_56 z _ _ ?_
    unfold D_K_reach_56
    exact E_K_reach_57 z _ _ _ rfl
  unfold D_K_reach_0 kTab
  rw [t_K_isAddress, xclI_some, if_neg (show ¬ (nI a < 0 ∨ nI 71 < nI a) by rintro (w | w); exact nI_pos (by omega) w; exact nI_nlt (by omega) (by decide) w), if_pos (by decide), bc_8]
  by_cases q : a < 8
  · rw [if_neg (nI_ge q (by decide)), if_pos q]
    simp only [Option.bind_some, kr_root ok h1 h2, Option.map_some]
  · rw [if_pos (nI_le (by omega) (by omega)), if_neg q]
    have ho : 1 + t < kT W := by omega
    have hk := F.2.2.2.2 t h1 h2
    have e1 : nI a / nI 8 - nI 1 = nI (a / 8 - 1) := by
      rw [pk_div (by omega) (by decide) (by decide), pk_sub (by omega)]
    have e2 : 8 * (1 + t) + (a / 8 - 1) = 8 * (1 + t) + a / 8 - 1 := by omega
    simp only [Option.bind_some, kr_root ok h1 h2, kisT ok ho, ic_1n, e1, t_T_held ok ho (show a / 8 - 1 < 8 by omega), hk, ↓reduceIte, xclR_some, e2]
    obtain ⟨p1, p2⟩ := F.2.1 (8 * (1 + t) + a / 8 - 1) (by omega)
    by_cases k0 : vN (c 14 (8 * (1 + t) + a / 8 - 1)) = 0
    · rw [if_pos (Or.inl k0), p1, k0, nI_0, kRC_0, xcase_n, e56]
      rfl
    · have d1 : 1 ≤ vN (c 14 (8 * (1 + t) + a / 8 - 1)) := by omega
      have d2 : vN (c 14 (8 * (1 + t) + a / 8 - 1)) ≤ kC W := by omega
      rw [p1, kRC_n d1 (by omega), xcase_s, ← p1]
      obtain ⟨r1, r2⟩ := F.2.2.1 _ d1 d2
      simp only [kr_thing ok d1 d2, Option.bind_some, kr_kind ok r2, ic_3]
      by_cases k1 : c 1 (vN (c 8 (vN (c 14 (8 * (1 + t) + a / 8 - 1))))) = nI 3
      · rw [if_neg (fun w => w k1), if_neg (by rintro (w | w); exact k0 w; exact w k1)]
        exact E_K_reach_57 z _ _ _ rfl
      · rw [if_pos k1, if_pos (Or.inr k1), e56]
        rfl
theorem t_K_tableAt (ok : kOk W h) (F : kWf W c) {t a o : Nat} (h1 : 1 ≤ t) (h2 : t < 4) (ha : a < 72) (e : kTab c t a = some o) : f_K_tableAt z [.ref (kg W 2 t), .int (nI a)] (kPut W h c) = some (.inl (some (va_rf (some (kg W 5 o)))), kPut W h c) := by
  refine E_K_tableAt z (some (kg W 2 t)) _ _ _ ?_
  have q := t_K_reach (z := z) ok F h1 h2 ha
  rw [e] at q
  unfold D_K_tableAt_0
  show (xclR (f_K_reach z [.ref (kg W 2 t), .int (nI a)] (kPut W h c)) _) = _
  rw [q, xclR_some]
  rfl
theorem t_K_tableAt0 (ok : kOk W h) (F : kWf W c) {t a : Nat} (h1 : 1 ≤ t) (h2 : t < 4) (ha : a < 72) (e : kTab c t a = none) : f_K_tableAt z [.ref (kg W 2 t), .int (nI a)] (kPut W h c) = kThr z W h c 9 := by
  refine E_K_tableAt z (some (kg W 2 t)) _ _ _ ?_
  have q := t_K_reach (z := z) ok F h1 h2 ha
  rw [e] at q
  unfold D_K_tableAt_0
  show (xclR (f_K_reach z [.ref (kg W 2 t), .int (nI a)] (kPut W h c)) _) = _
  rw [q, xclR_some]
  exact k_thr ok 9
theorem xclR_thr (ci : Nat) (k : Option Nat → xH → Option xR) : xclR (kThr z W h c ci) k = kThr z W h c ci := rfl
theorem xclV_thr (ci : Nat) (k : xH → Option xR) : xclV (kThr z W h c ci) k = kThr z W h c ci := rfl
theorem xclI_thr (ci : Nat) (k : Int32 → xH → Option xR) : xclI (kThr z W h c ci) k = kThr z W h c ci := rfl
theorem mCapa_tab {t a o : Nat} (e : kTab c t a = some o) : mCapa c t a = c 14 (8 * o + a % 8) := by
  unfold mCapa
  rw [mPlace_tab, e]
  rfl
theorem mCapa_none {t a : Nat} (e : kTab c t a = none) : mCapa c t a = 0 := by
  unfold mCapa
  rw [mPlace_tab, e]
  rfl
theorem mCapa_ok (F : kWf W c) {t a : Nat} (h1 : 1 ≤ t) (h2 : t < 4) (ha : a < 72) : isN (mCapa c t a) (kC W + 1) := by
  cases e : kTab c t a with
  | none =>
    rw [mCapa_none e]
    exact isN_nI (n := 0) (by omega) (by have := F.1.2.2; omega)
  | some o =>
    have := (kTab_ok F h1 h2 ha e).1
    have := F.1.2.1
    rw [mCapa_tab e]
    exact F.2.1 _ (by omega)
theorem t_K_capabilityAt (ok : kOk W h) (F : kWf W c) {t a : Nat} (h1 : 1 ≤ t) (h2 : t < 4) (ha : a < 72) (e : ¬ mCapa c t a = 0) : f_K_capabilityAt z [.ref (kg W 2 t), .int (nI a)] (kPut W h c) = some (.inl (some (va_rf (some (kg W 1 (vN (mCapa c t a)))))), kPut W h c) := by
  refine E_K_capabilityAt z (some (kg W 2 t)) _ _ _ ?_
  unfold D_K_capabilityAt_0
  show (xclR (f_K_tableAt z [.ref (kg W 2 t), .int (nI a)] (kPut W h c)) _) = _
  cases e1 : kTab c t a with
  | none => exact absurd (mCapa_none e1) e
  | some o =>
    obtain ⟨q1, q2⟩ := kTab_ok F h1 h2 ha e1
    rw [t_K_tableAt ok F h1 h2 ha e1, xclR_some, t_K_slotOf (by omega), xclI_some, Option.bind_some, kisT ok q1, Option.bind_some, t_T_held ok q1 (Nat.mod_lt _ (by decide)), if_pos q2, xclR_some, ← mCapa_tab e1, kRC, if_neg e, xcase_s]
theorem t_K_capabilityAt0 (ok : kOk W h) (F : kWf W c) {t a : Nat} (h1 : 1 ≤ t) (h2 : t < 4) (ha : a < 72) (e : mCapa c t a = 0) : f_K_capabilityAt z [.ref (kg W 2 t), .int (nI a)] (kPut W h c) = kThr z W h c 9 := by
  refine E_K_capabilityAt z (some (kg W 2 t)) _ _ _ ?_
  unfold D_K_capabilityAt_0
  show (xclR (f_K_tableAt z [.ref (kg W 2 t), .int (nI a)] (kPut W h c)) _) = _
  cases e1 : kTab c t a with
  | none =>
    rw [t_K_tableAt0 ok F h1 h2 ha e1, xclR_thr]
    rfl
  | some o =>
    obtain ⟨q1, q2⟩ := kTab_ok F h1 h2 ha e1
    rw [t_K_tableAt ok F h1 h2 ha e1, xclR_some, t_K_slotOf (by omega), xclI_some, Option.bind_some, kisT ok q1, Option.bind_some, t_T_held ok q1 (Nat.mod_lt _ (by decide)), if_pos q2, xclR_some, ← mCapa_tab e1, e, kRC_0, xcase_n]
    exact k_thr ok 9
-- the line
def kB (W : kW) (b : Nat) : Option Nat := if b = 0 then none else some (kg W 2 b)
theorem t_fil_step (ok : kOk W h) {b i : Nat} (hb : b < 4) (hi : i < 3) {r : xR} (hn : B_K_firstInLine_4 z (kg W 0 0) (kB W (mNowStep c b (i + 1))) (nI (i + 1)) (kPut W h c) = some r) : B_K_firstInLine_4 z (kg W 0 0) (kB W b) (nI i) (kPut W h c) = some r := by
  refine E_K_firstInLine_4 z _ _ _ _ _ ?_
  have n41 : ∀ b', B_K_firstInLine_4 z (kg W 0 0) (kB W b') (nI (i + 1)) (kPut W h c) = some r → B_K_firstInLine_41 z (kg W 0 0) (kB W b') (nI i) (kPut W h c) = some r := by
    intro b' e
    refine E_K_firstInLine_41 z _ _ _ _ _ ?_
    unfold D_K_firstInLine_41
    rw [ic_1, nI_1]
    exact e
  have n39 : mNowStep c b (i + 1) = i + 1 → B_K_firstInLine_39 z (kg W 0 0) (nI i) (some (kg W 2 (i + 1))) (kPut W h c) = some r := by
    intro e
    refine E_K_firstInLine_39 z _ _ _ _ _ ?_
    unfold D_K_firstInLine_39
    have := n41 (i + 1)
    rw [kB, if_neg (by omega)] at this
    refine this ?_
    rw [e, kB, if_neg (by omega)] at hn
    exact hn
  simp only [D_K_firstInLine_4, kr_clients ok, Option.bind_some, kl_clients ok, ka_clients ok hi, kr_state ok (show 1 ≤ i + 1 by omega) (show i + 1 < 4 by omega)]
  rw [if_neg (show ¬ Int32.ofNat 3 ≤ nI i from nI_ge hi (by decide))]
  unfold mNowStep at hn n39
  by_cases s0 : c 15 (i + 1) = 0
  · rw [if_neg (fun w => w s0)]
    by_cases b0 : b = 0
    · rw [kB, if_pos b0, xcase_n]
      exact n39 (if_pos ⟨s0, Or.inl b0⟩)
    · rw [kB, if_neg b0, xcase_s, kisL ok (by omega) (by omega), Option.bind_some, t_L_comesBefore ok (by omega) (by omega) (by omega) hb, xclI_some]
      by_cases q : c 20 b < c 20 (i + 1) ∨ (c 20 (i + 1) = c 20 b ∧ c 21 (i + 1) < c 21 b)
      · rw [xb_same q, if_neg (by decide)]
        exact n39 (if_pos ⟨s0, Or.inr q⟩)
      · rw [xb_not q, if_pos rfl]
        rw [if_neg (by rintro ⟨-, w | w⟩; exact b0 w; exact q w)] at hn
        have := n41 b hn
        rw [kB, if_neg b0] at this
        exact this
  · rw [if_pos s0]
    rw [if_neg (fun w => s0 w.1)] at hn
    exact n41 b hn
theorem t_K_firstInLine (ok : kOk W h) : f_K_firstInLine z [.ref (kg W 0 0)] (kPut W h c) = some (.inl (some (va_rf (kB W (mNow c)))), kPut W h c) := by
  refine E_K_firstInLine z _ _ _ ?_
  unfold D_K_firstInLine_0
  have l1 : mNowStep c 0 1 < 4 := mNowStep_lt (by decide) (by decide)
  have l2 : mNowStep c (mNowStep c 0 1) 2 < 4 := mNowStep_lt l1 (by decide)
  refine t_fil_step (b := 0) (i := 0) ok (by decide) (by decide) (t_fil_step (i := 1) ok l1 (by decide) (t_fil_step (i := 2) ok l2 (by decide) ?_))
  refine E_K_firstInLine_4 z _ _ _ _ _ ?_
  simp only [D_K_firstInLine_4, kr_clients ok, Option.bind_some, kl_clients ok]
  rw [if_pos (show Int32.ofNat 3 ≤ nI 3 from nI_le (Nat.le_refl _) (by decide))]
  rfl
theorem t_K_actor (ok : kOk W h) (hn : mNow c ≠ 0) : f_K_actor z [.ref (kg W 0 0)] (kPut W h c) = some (.inl (some (va_rf (some (kg W 2 (mNow c))))), kPut W h c) := by
  refine E_K_actor z _ _ _ ?_
  unfold D_K_actor_0
  rw [kisK ok, Option.bind_some, t_K_firstInLine ok, xclR_some, kB, if_neg hn, xcase_s]
theorem t_K_actor0 (ok : kOk W h) (hn : mNow c = 0) : f_K_actor z [.ref (kg W 0 0)] (kPut W h c) = kThr z W h c 11 := by
  refine E_K_actor z _ _ _ ?_
  unfold D_K_actor_0
  rw [kisK ok, Option.bind_some, t_K_firstInLine ok, xclR_some, kB, if_pos hn, xcase_n]
  exact k_thr ok 11
-- stamps
theorem t_K_nextStamp (ok : kOk W h) : f_K_nextStamp z [.ref (kg W 0 0)] (kPut W h c) = some (.inl (some (.int (c 31 0 + 1))), kPut W h (sS c 31 0 (c 31 0 + 1))) := by
  refine E_K_nextStamp z _ _ _ ?_
  simp only [D_K_nextStamp_0, kr_stamps ok, kw_stamps ok, Option.bind_some, ic_1, sS_app, and_self, ↓reduceIte]
/-- ready, at the class: no longer waiting -/
def kReady (c : mS) (t : Nat) : mS := sS (sS (sS (sS c 15 t 0) 52 t 0) 31 0 (c 31 0 + 1)) 21 t (c 31 0 + 1)
theorem t_K_makeReady (ok : kOk W h) {t : Nat} (h1 : 1 ≤ t) (h2 : t < 4) : f_K_makeReady z [.ref (kg W 0 0), .ref (kg W 2 t)] (kPut W h c) = some (.inl none, kPut W h (kReady c t)) := by
  refine E_K_makeReady z _ (some (kg W 2 t)) _ _ ?_
  have q := kw_waitsAt (c := sS c 15 t 0) ok h1 h2 0
  rw [kRT_0] at q
  simp only [D_K_makeReady_0, Option.bind_some, kw_state ok h1 h2, ic_0, q, kisK ok, t_K_nextStamp ok, xclI_some, kw_place ok h1 h2]
  rfl
def kWaits (c : mS) (t : Nat) (st : Int32) (o : Nat) : mS := sS (sS (sS (sS c 15 t st) 52 t (nI (o + 1))) 31 0 (c 31 0 + 1)) 23 t (c 31 0 + 1)
theorem t_K_beginWaiting (ok : kOk W h) {t o : Nat} (h1 : 1 ≤ t) (h2 : t < 4) (ho : o + 1 < 2 ^ 31) (st : Int32) : f_K_beginWaiting z [.ref (kg W 0 0), .ref (kg W 2 t), .ref (kg W 5 o), .int st] (kPut W h c) = some (.inl none, kPut W h (kWaits c t st o)) := by
  refine E_K_beginWaiting z _ (some (kg W 2 t)) (some (kg W 5 o)) _ _ _ ?_
  have q := kw_waitsAt (c := sS c 15 t st) ok h1 h2 (nI (o + 1))
  rw [kRT_n ho] at q
  simp only [D_K_beginWaiting_0, Option.bind_some, kw_state ok h1 h2, q, kisK ok, t_K_nextStamp ok, xclI_some, kw_since ok h1 h2]
  rfl
end KD
