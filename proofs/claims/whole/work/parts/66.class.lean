/-! The class: objects, capabilities, clients, addresses. -/
theorem xcase_n {α : Type} (n : α) (s : Nat → α) : xcase none n s = n := rfl
theorem xcase_s {α : Type} (a : Nat) (n : α) (s : Nat → α) : xcase (some a) n s = s a := rfl
/-- what the numbers of the class's state keep to -/
def kWf (W : kW) (c : mS) : Prop := (10 ≤ kT W ∧ kT W ≤ 50 ∧ kC W < 1200) ∧ (∀ i, i < 400 → isN (c 14 i) (kC W + 1)) ∧ (∀ j, 1 ≤ j → j ≤ kC W → isN (c 8 j) (kT W)) ∧ (∀ j, 1 ≤ j → j ≤ kC W → isN (c 11 j) j) ∧ (∀ t, 1 ≤ t → t < 4 → c 1 (1 + t) = nI 3)
section KC
variable {z : xzs} {W : kW} {h : xH} {c : mS}
theorem kRC_0 : kRC W 0 = none := if_pos rfl
theorem kRC_n {j : Nat} (h1 : 1 ≤ j) (h2 : j < 2 ^ 31) : kRC W (nI j) = some (kg W 1 j) := by
  rw [kRC, if_neg (nI_ne0 h1 h2), vN_nI h2]
theorem kRT_0 : kRT W 0 = none := if_pos rfl
theorem kRT_n {o : Nat} (h2 : o + 1 < 2 ^ 31) : kRT W (nI (o + 1)) = some (kg W 5 o) := by
  rw [kRT, if_neg (nI_ne0 (by omega) h2), vN_nI h2]
  rfl
theorem kRO_n {o : Nat} (h1 : 1 ≤ o) (h2 : o < 2 ^ 31) : kRO W (nI o) = some (kg W 5 o) := by
  rw [kRO, if_neg (nI_ne0 h1 h2), vN_nI h2]
theorem kRL_n {o : Nat} (h1 : 1 ≤ o) (h2 : o < 2 ^ 31) : kRL W (nI o) = some (kg W 2 o) := by
  rw [kRL, if_neg (nI_ne0 h1 h2), vN_nI h2]
-- objects
theorem t_T_hasSlot (ok : kOk W h) {o i : Nat} (ho : o < kT W) (hi : i < 8) : f_T_hasSlot z [.ref (kg W 5 o), .int (nI i)] (kPut W h c) = some (.inl (some (.int (if c 1 o = nI 3 then 1 else 0))), kPut W h c) := by
  refine E_T_hasSlot z _ _ _ _ ?_
  unfold D_T_hasSlot_0
  rw [if_neg (nI_pos (by omega))]
  simp only [kr_slots ok ho, kl_slots ok ho, Option.bind_some]
  by_cases k : c 1 o = nI 3
  · rw [if_pos k, if_pos k, if_neg (show ¬ Int32.ofNat 8 ≤ nI i from nI_ge hi (by decide))]
    refine E_T_hasSlot_18 z _ _ _ ?_
    unfold D_T_hasSlot_18
    rw [ic_1, if_pos (Or.inr rfl)]
  · rw [if_neg k, if_neg k, if_pos (show Int32.ofNat 0 ≤ nI i from nI_le (Nat.zero_le _) (by omega))]
    refine E_T_hasSlot_17 z _ _ ?_
    unfold D_T_hasSlot_17
    refine E_T_hasSlot_18 z _ _ _ ?_
    unfold D_T_hasSlot_18
    rw [ic_0, if_pos (Or.inl rfl)]
theorem t_T_held (ok : kOk W h) {o i : Nat} (ho : o < kT W) (hi : i < 8) : f_T_held z [.ref (kg W 5 o), .int (nI i)] (kPut W h c) = some (.inl (some (va_rf (if c 1 o = nI 3 then kRC W (c 14 (8 * o + i)) else none))), kPut W h c) := by
  refine E_T_held z _ _ _ _ ?_
  unfold D_T_held_0
  rw [kisT ok ho, t_T_hasSlot ok ho hi, Option.bind_some, xclI_some]
  by_cases k : c 1 o = nI 3
  · rw [if_pos k, if_pos k, if_neg (show ¬ (1 : Int32) = 0 by decide)]
    simp only [kr_slots ok ho, Option.bind_some, ka_slots ok ho k hi]
    refine E_T_held_18 z _ _ _ ?_
    rfl
  · rw [if_neg k, if_neg k, if_pos rfl]
    refine E_T_held_18 z _ _ _ ?_
    rfl
theorem t_T_isFree (ok : kOk W h) {o i : Nat} (ho : o < kT W) (hi : i < 8) : f_T_isFree z [.ref (kg W 5 o), .int (nI i)] (kPut W h c) = some (.inl (some (.int (if c 1 o = nI 3 ∧ c 14 (8 * o + i) = 0 then 1 else 0))), kPut W h c) := by
  refine E_T_isFree z _ _ _ _ ?_
  unfold D_T_isFree_0
  rw [kisT ok ho, t_T_hasSlot ok ho hi, Option.bind_some, xclI_some]
  have e21 : B_T_isFree_21 z (kPut W h c) = some (.inl (some (.int 0)), kPut W h c) := by
    refine E_T_isFree_21 z _ _ ?_
    unfold D_T_isFree_21
    refine E_T_isFree_22 z _ _ _ ?_
    unfold D_T_isFree_22
    rw [ic_0, if_pos (Or.inl rfl)]
  by_cases k : c 1 o = nI 3
  · rw [if_pos k, if_neg (show ¬ (1 : Int32) = 0 by decide)]
    simp only [kr_slots ok ho, Option.bind_some, ka_slots ok ho k hi]
    by_cases k2 : c 14 (8 * o + i) = 0
    · rw [if_pos ⟨k, k2⟩, k2, kRC_0, xcase_n]
      refine E_T_isFree_22 z _ _ _ ?_
      unfold D_T_isFree_22
      rw [ic_1, if_pos (Or.inr rfl)]
    · rw [if_neg (fun w => k2 w.2), kRC, if_neg k2, xcase_s]
      exact e21
  · rw [if_neg k, if_pos rfl, if_neg (fun w => k w.1)]
    exact e21
theorem t_T_holdR (ok : kOk W h) {o i : Nat} (ho : o < kT W) (hk : c 1 o = nI 3) (hi : i < 8) {x : Int32} (hx : kCok W x) : f_T_hold z [.ref (kg W 5 o), .int (nI i), va_rf (kRC W x)] (kPut W h c) = some (.inl none, kPut W h (sS c 14 (8 * o + i) x)) := by
  refine E_T_hold z _ _ _ _ _ ?_
  unfold D_T_hold_0
  rw [kisT ok ho, t_T_hasSlot ok ho hi, Option.bind_some, xclI_some, if_pos hk, if_neg (show ¬ (1 : Int32) = 0 by decide)]
  simp only [kr_slots ok ho, Option.bind_some, kw_slots ok ho hk hi hx]
  exact E_T_hold_15 z _ _ rfl
theorem t_T_hold1 (ok : kOk W h) {o i j : Nat} (ho : o < kT W) (hk : c 1 o = nI 3) (hi : i < 8) (h1 : 1 ≤ j) (h2 : j ≤ kC W) (h3 : j < 2 ^ 31) : f_T_hold z [.ref (kg W 5 o), .int (nI i), .ref (kg W 1 j)] (kPut W h c) = some (.inl none, kPut W h (sS c 14 (8 * o + i) (nI j))) := by
  have q := t_T_holdR (z := z) ok ho hk hi (x := nI j) (Or.inr ⟨j, h1, h2, rfl, h3⟩)
  rw [kRC_n h1 h3] at q
  exact q
theorem t_T_hold0 (ok : kOk W h) {o i : Nat} (ho : o < kT W) (hk : c 1 o = nI 3) (hi : i < 8) : f_T_hold z [.ref (kg W 5 o), .int (nI i), .null] (kPut W h c) = some (.inl none, kPut W h (sS c 14 (8 * o + i) 0)) := by
  have q := t_T_holdR (z := z) ok ho hk hi (x := 0) (Or.inl rfl)
  rw [kRC_0] at q
  exact q
theorem t_T_content (ok : kOk W h) {o : Nat} (ho : o < kT W) : f_T_content z [.ref (kg W 5 o)] (kPut W h c) = some (.inl (some (.int (if ¬ c 1 o = 0 then c 4 o else c 3 o))), kPut W h c) := by
  refine E_T_content z _ _ _ ?_
  simp only [D_T_content_0, kr_kind ok ho, kr_bits ok ho, kr_used ok ho, Option.bind_some]
  by_cases k : c 1 o = 0
  · rw [if_neg (fun w => w k), if_neg (fun w => w k)]
    exact E_T_content_18 z _ _ _ rfl
  · rw [if_pos k, if_pos k]
    exact E_T_content_18 z _ _ _ rfl
-- capabilities
theorem t_C_enterSlot (ok : kOk W h) {o i j : Nat} (ho : o < kT W) (ho2 : o + 1 < 2 ^ 31) (hk : c 1 o = nI 3) (hi : i < 8) (h1 : 1 ≤ j) (h2 : j ≤ kC W) (h3 : j < 2 ^ 31) : f_C_enterSlot z [.ref (kg W 1 j), .ref (kg W 5 o), .int (nI i)] (kPut W h c) = some (.inl none, kPut W h (sS (sS (sS c 64 j (nI (o + 1))) 65 j (nI i)) 14 (8 * o + i) (nI j))) := by
  refine E_C_enterSlot z _ (some (kg W 5 o)) _ _ _ ?_
  have q := kw_table (c := c) ok h1 h2 (nI (o + 1))
  rw [kRT_n ho2] at q
  simp only [D_C_enterSlot_0, q, kw_slot ok h1 h2, Option.bind_some, kisT ok ho, t_T_hold1 (z := z) (c := sS (sS c 64 j (nI (o + 1))) 65 j (nI i)) ok ho hk hi h1 h2 h3, xclV_some]
theorem t_C_leaveSlot (ok : kOk W h) {o i j : Nat} (ho : o < kT W) (ho2 : o + 1 < 2 ^ 31) (hk : c 1 o = nI 3) (hi : i < 8) (h1 : 1 ≤ j) (h2 : j ≤ kC W) (ht : c 64 j = nI (o + 1)) (hs : c 65 j = nI i) : f_C_leaveSlot z [.ref (kg W 1 j)] (kPut W h c) = some (.inl none, kPut W h (sS (sS c 14 (8 * o + i) 0) 64 j 0)) := by
  refine E_C_leaveSlot z _ _ _ ?_
  have q := kw_table (c := sS c 14 (8 * o + i) 0) ok h1 h2 0
  rw [kRT_0] at q
  simp only [D_C_leaveSlot_0, kr_table ok h1 h2, ht, kRT_n ho2, kr_slot ok h1 h2, hs, Option.bind_some, xcase_s, kisT ok ho, t_T_hold0 ok ho hk hi, xclV_some, q]
  exact E_C_leaveSlot_24 z _ _ rfl
theorem t_cameC (ok : kOk W h) (F : kWf W c) {top : Nat} (h1 : 1 ≤ top) (h2 : top ≤ kC W) : ∀ (n k : Nat), k < n → k ≤ kC W → B_C_cameOf_5 z (some (kg W 1 top)) (kRC W (nI k)) (kPut W h c) = some (.inl (some (.int (xb (mUp c top n k = true)))), kPut W h c)
  | 0, k, hk, _ => by omega
  | n + 1, k, hk, hl => by
    have hC := F.1.2.2
    refine E_C_cameOf_5 z _ _ _ _ ?_
    unfold D_C_cameOf_5 mUp
    by_cases h0 : k = 0
    · rw [h0, show nI 0 = 0 from nI_0, kRC_0, xcase_n, ic_0, if_pos (Or.inl rfl), if_pos (Or.inl rfl), xb_not]
      simp only [decide_eq_true_eq]
      omega
    · rw [kRC_n (by omega) (by omega), xcase_s]
      by_cases e : k = top
      · rw [if_pos (by rw [e]), ic_1, if_pos (Or.inr rfl), if_pos (Or.inr e), xb_same]
        simp only [decide_eq_true_eq]
        exact e
      · rw [if_neg (fun w => e ((kg_inj1 ok (by omega) hl h1 h2).mp (Option.some.inj w))), if_neg (by rintro (q | q); exact h0 q; exact e q)]
        obtain ⟨p1, p2⟩ := F.2.2.2.1 k (by omega) hl
        rw [kr_from ok (by omega) hl, Option.bind_some, p1]
        have e : vN (nI (vN (c 11 k))) = vN (c 11 k) := vN_nI (by omega)
        rw [e]
        exact t_cameC ok F h1 h2 n (vN (c 11 k)) (by omega) (by omega)
theorem t_C_cameOf (ok : kOk W h) (F : kWf W c) {j top : Nat} (h1 : 1 ≤ top) (h2 : top ≤ kC W) (h3 : 1 ≤ j) (h4 : j ≤ kC W) : f_C_cameOf z [.ref (kg W 1 j), .ref (kg W 1 top)] (kPut W h c) = some (.inl (some (.int (xb (mCame c j top = true)))), kPut W h c) := by
  have hC := F.1.2.2
  refine E_C_cameOf z _ (some (kg W 1 top)) _ _ ?_
  obtain ⟨p1, p2⟩ := F.2.2.2.1 j h3 h4
  simp only [D_C_cameOf_0, kr_from ok h3 h4, Option.bind_some]
  unfold mCame
  rw [p1]
  have e : vN (nI (vN (c 11 j))) = vN (c 11 j) := vN_nI (by omega)
  rw [e]
  exact t_cameC ok F h1 h2 1200 _ (by omega) (by omega)
-- clients
theorem t_L_comesBefore (ok : kOk W h) {t u : Nat} (h1 : 1 ≤ t) (h2 : t < 4) (h3 : 1 ≤ u) (h4 : u < 4) : f_L_comesBefore z [.ref (kg W 2 t), .ref (kg W 2 u)] (kPut W h c) = some (.inl (some (.int (xb (c 20 u < c 20 t ∨ (c 20 t = c 20 u ∧ c 21 t < c 21 u))))), kPut W h c) := by
  refine E_L_comesBefore z _ (some (kg W 2 u)) _ _ ?_
  simp only [D_L_comesBefore_0, kr_priority ok h1 h2, kr_priority ok h3 h4, kr_place ok h1 h2, kr_place ok h3 h4, Option.bind_some]
  have y : B_L_comesBefore_33 z (kPut W h c) = some (.inl (some (.int 1)), kPut W h c) := by
    refine E_L_comesBefore_33 z _ _ ?_
    unfold D_L_comesBefore_33
    refine E_L_comesBefore_38 z _ _ _ ?_
    unfold D_L_comesBefore_38
    rw [ic_1, if_pos (Or.inr rfl)]
  have n : B_L_comesBefore_37 z (kPut W h c) = some (.inl (some (.int 0)), kPut W h c) := by
    refine E_L_comesBefore_37 z _ _ ?_
    unfold D_L_comesBefore_37
    refine E_L_comesBefore_38 z _ _ _ ?_
    unfold D_L_comesBefore_38
    rw [ic_0, if_pos (Or.inl rfl)]
  by_cases e1 : c 20 u < c 20 t
  · rw [if_pos e1, y, xb_same (Or.inl e1)]
  · rw [if_neg e1]
    by_cases e2 : c 20 t = c 20 u
    · rw [if_neg (fun w => w e2)]
      by_cases e3 : c 21 u ≤ c 21 t
      · rw [if_pos e3, n, xb_not (by rintro (q | q); exact e1 q; exact k2_nle q.2 e3)]
      · rw [if_neg e3, y, xb_same (Or.inr ⟨e2, k2_lt e3⟩)]
    · rw [if_pos e2, n, xb_not (by rintro (q | q); exact e1 q; exact e2 q.1)]
theorem t_L_hear (ok : kOk W h) {t : Nat} (h1 : 1 ≤ t) (h2 : t < 4) (w b a : Int32) : f_L_hear z [.ref (kg W 2 t), .int w, .int b, .int a] (kPut W h c) = some (.inl none, kPut W h (mComes c t w b a)) := by
  refine E_L_hear z _ _ _ _ _ _ ?_
  simp only [D_L_hear_0, ic_0, kw_outcome ok h1 h2, kw_word ok h1 h2, kw_lbadge ok h1 h2, kw_address ok h1 h2, Option.bind_some]
  rfl
theorem t_L_prepare (ok : kOk W h) {t : Nat} (h1 : 1 ≤ t) (h2 : t < 4) (w b g : Int32) : f_L_prepare z [.ref (kg W 2 t), .int w, .int b, va_rf (kRC W g)] (kPut W h c) = some (.inl none, kPut W h (mNote c t w b g)) := by
  refine E_L_prepare z _ _ _ _ _ _ ?_
  simp only [D_L_prepare_0, kw_sentWord ok h1 h2, kw_sentBadge ok h1 h2, kw_sent ok h1 h2, Option.bind_some]
  rfl
end KC
