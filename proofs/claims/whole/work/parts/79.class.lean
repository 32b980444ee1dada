/-! The class: a message is delivered. -/
abbrev kDelOk (c : mS) (u v : Nat) : Prop := 1 ≤ vN (c 26 u) ∧ ¬ c 12 (vN (c 26 u)) = 0 ∧ ¬ c 56 v = 0 ∧ ¬ c 6 (vN (c 56 v) - 1) = 0 ∧ c 14 (8 * (vN (c 56 v) - 1) + vN (c 27 v) % 8) = 0
def kHoS (W : kW) (c : mS) (n u v : Nat) : mS := kDerS c (kC W + 1) (vN (c 8 (vN (c 26 u)))) (c 9 (vN (c 26 u)) &&& nI 7) (c 10 (vN (c 26 u))) (nI (vN (c 26 u))) (vN (c 56 v) - 1) (vN (c 27 v) % 8) n
def kDelS (W : kW) (c : mS) (n u v : Nat) : mS := if kDelOk c u v then mComes (kHoS W c n u v) v (c 24 u) (c 25 u) (c 27 v) else mComes c v (c 24 u) (c 25 u) (-1)
/-- where the receiver wants it -/
def kIn (W : kW) (c : mS) (v : Nat) : Prop := c 56 v = 0 ∨ ∃ o a, o < kT W ∧ c 1 o = nI 3 ∧ c 56 v = nI (o + 1) ∧ a < 72 ∧ c 27 v = nI a
section KP
variable {z : xzs} {W : kW} {h : xH} {c : mS} {n : Nat}
theorem kG_0 {x : Int32} : kG x = 0 ↔ ¬ x = 0 := by
  unfold kG
  split
  · rename_i e
    exact ⟨fun w => absurd w (by decide), fun w => absurd e w⟩
  · rename_i e
    exact ⟨fun _ => e, fun _ => rfl⟩
theorem t_K_handOver (K : kP z W h c n) {u v : Nat} (v1 : 1 ≤ v) (v2 : v < 4) (hg : isN (c 26 u) (kC W + 1)) (hi : kIn W c v) : ∃ W' h' c', f_K_handOver z [.ref (kg W 0 0), va_rf (kRC W (c 26 u)), .ref (kg W 2 v)] (kPut W h c) = some (.inl (some (.int (if kDelOk c u v then c 27 v else -1))), kPut W' h' c') ∧ kFr 2 2007 W h W' h' ∧ kXt W W' ∧ kT W' = kT W ∧ (kDelOk c u v → kC W' = kC W + 1 ∧ n + 1 ≤ kcap W' ∧ c' = kHoS W c n u v) ∧ (¬ kDelOk c u v → W' = W ∧ h' = h ∧ c' = c) := by
  obtain ⟨ok, F, A, R, hl, hz, hn, hC⟩ := K
  obtain ⟨g1, g2⟩ := hg
  have e27 : B_K_handOver_27 z (kPut W h c) = some (.inl (some (.int (-1))), kPut W h c) := by
    refine E_K_handOver_27 z _ _ ?_
    unfold D_K_handOver_27
    rw [ic_m1]
  have no : ¬ kDelOk c u v → f_K_handOver z [.ref (kg W 0 0), va_rf (kRC W (c 26 u)), .ref (kg W 2 v)] (kPut W h c) = some (.inl (some (.int (-1))), kPut W h c) → ∃ W' h' c', f_K_handOver z [.ref (kg W 0 0), va_rf (kRC W (c 26 u)), .ref (kg W 2 v)] (kPut W h c) = some (.inl (some (.int (if kDelOk c u v then c 27 v else -1))), kPut W' h' c') ∧ kFr 2 2007 W h W' h' ∧ kXt W W' ∧ kT W' = kT W ∧ (kDelOk c u v → kC W' = kC W + 1 ∧ n + 1 ≤ kcap W' ∧ c' = kHoS W c n u v) ∧ (¬ kDelOk c u v → W' = W ∧ h' = h ∧ c' = c) := by
    intro q e
    exact ⟨W, h, c, by rw [if_neg q]; exact e, kFr.mono (kFr.rf ok) (by decide) (by decide), kXt.rf hl.2.2.1, rfl, fun w => absurd w q, fun _ => ⟨rfl, rfl, rfl⟩⟩
  by_cases k0 : vN (c 26 u) = 0
  · refine no (fun w => by have := w.1; omega) (E_K_handOver z _ _ (some (kg W 2 v)) _ _ ?_)
    unfold D_K_handOver_0
    rw [Option.bind_some, kr_intoTable ok v1 v2, Option.bind_some, g1, k0, nI_0, kRC_0, xcase_n, e27]
  have j1 : 1 ≤ vN (c 26 u) := by omega
  have j2 : vN (c 26 u) ≤ kC W := by omega
  have eg : kRC W (c 26 u) = some (kg W 1 (vN (c 26 u))) := by
    rw [g1, kRC_n (by omega) (by omega), vN_nI (by omega)]
  by_cases k1 : c 12 (vN (c 26 u)) = 0
  · refine no (fun w => w.2.1 k1) (E_K_handOver z _ _ (some (kg W 2 v)) _ _ ?_)
    unfold D_K_handOver_0
    rw [Option.bind_some, kr_intoTable ok v1 v2, Option.bind_some, eg, xcase_s, kr_cgone ok j1 j2, Option.bind_some, if_pos (fun w => kG_0.mp w k1), e27]
  rcases hi with k2 | ⟨o, a, o1, o2, o3, a1, a2⟩
  · refine no (fun w => w.2.2.1 k2) (E_K_handOver z _ _ (some (kg W 2 v)) _ _ ?_)
    unfold D_K_handOver_0
    rw [Option.bind_some, kr_intoTable ok v1 v2, Option.bind_some, eg, xcase_s, kr_cgone ok j1 j2, Option.bind_some, if_neg (fun w => w (kG_0.mpr k1)), k2, kRT_0, xcase_n, e27]
  have hT := F.1.2.1
  have eo : vN (c 56 v) - 1 = o := by rw [o3, vN_nI (by omega)]; rfl
  have ea : vN (c 27 v) = a := by rw [a2, vN_nI (by omega)]
  have n56 : ¬ c 56 v = 0 := by rw [o3]; exact nI_ne0 (by omega) (by omega)
  by_cases k3 : c 6 o = 0
  · refine no (fun w => w.2.2.2.1 (by rw [eo]; exact k3)) (E_K_handOver z _ _ (some (kg W 2 v)) _ _ ?_)
    unfold D_K_handOver_0
    rw [Option.bind_some, kr_intoTable ok v1 v2, Option.bind_some, eg, xcase_s, kr_cgone ok j1 j2, Option.bind_some, if_neg (fun w => w (kG_0.mpr k1)), o3, kRT_n (by omega), xcase_s, kr_tgone ok o1, Option.bind_some, if_neg (fun w => kG_0.mp w k3), e27]
  have hm : a % 8 < 8 := Nat.mod_lt _ (by decide)
  have go : ∀ r, (xclI (f_T_isFree z [.ref (kg W 5 o), .int (nI (a % 8))] (kPut W h c)) fun x11 h10 => if ¬ x11 = 0 then (rdI h10 (kg W 1 (vN (c 26 u))) 1 2).bind fun x12 => (xisO h10 (kg W 0 0) 0).bind fun _ => xclI (f_K_derive z [.ref (kg W 0 0), .ref (kg W 1 (vN (c 26 u))), .int (nI 7), .int x12, .ref (kg W 5 o), .int (nI (a % 8))] h10) fun x14 h13 => (rdI h13 (kg W 2 v) 2 15).bind fun x15 => some (.inl (some (.int x15)), h13) else some (.inl (some (.int (-1))), h10)) = some r → f_K_handOver z [.ref (kg W 0 0), va_rf (kRC W (c 26 u)), .ref (kg W 2 v)] (kPut W h c) = some r := by
    intro r q
    refine E_K_handOver z _ _ (some (kg W 2 v)) _ _ ?_
    unfold D_K_handOver_0
    rw [Option.bind_some, kr_intoTable ok v1 v2, Option.bind_some, eg, xcase_s, kr_cgone ok j1 j2, Option.bind_some, if_neg (fun w => w (kG_0.mpr k1)), o3, kRT_n (by omega), xcase_s, kr_tgone ok o1, Option.bind_some, if_pos (kG_0.mpr k3), kr_into ok v1 v2, Option.bind_some, a2, t_K_slotOf (by omega), xclI_some, kisT ok o1, Option.bind_some, bc_7k, ic_m1]
    exact q
  by_cases k4 : c 14 (8 * o + a % 8) = 0
  · have hok : kDelOk c u v := ⟨j1, k1, n56, by rw [eo]; exact k3, by rw [eo, ea]; exact k4⟩
    have hth := F.2.2.1 _ j1 j2
    obtain ⟨W', h', e, p1, p2, p3, p4, p5⟩ := t_K_derive (z := z) (r := nI 7) (b := c 10 (vN (c 26 u))) ok R hz hl hn hC o1 o2 hm j1 j2 hth.1 hth.2
    refine ⟨W', h', kHoS W c n u v, ?_, p1, p2, p3, fun _ => ⟨p4, p5, rfl⟩, fun w => absurd hok w⟩
    rw [if_pos hok]
    refine go _ ?_
    rw [t_T_isFree ok o1 hm, xclI_some, show (if c 1 o = nI 3 ∧ c 14 (8 * o + a % 8) = 0 then (1 : Int32) else 0) = 1 from if_pos ⟨o2, k4⟩, if_pos (show ¬ (1 : Int32) = 0 by decide), kr_badge ok j1 j2, Option.bind_some, kisK ok, Option.bind_some, e, xclI_some]
    have es : kDerS c (kC W + 1) (vN (c 8 (vN (c 26 u)))) (c 9 (vN (c 26 u)) &&& nI 7) (c 10 (vN (c 26 u))) (nI (vN (c 26 u))) o (a % 8) n = kHoS W c n u v := by
      unfold kHoS
      rw [eo, ea]
    rw [es, ← p2.1 2 v (by omega) (kDom2 v1 v2), kr_into p1.1 v1 v2, Option.bind_some]
    rfl
  · refine no (fun w => k4 (by have := w.2.2.2.2; rw [eo, ea] at this; exact this)) (go _ ?_)
    rw [t_T_isFree ok o1 hm, xclI_some, show (if c 1 o = nI 3 ∧ c 14 (8 * o + a % 8) = 0 then (1 : Int32) else 0) = 0 from if_neg (fun w => k4 w.2), if_neg (fun w => w rfl)]
theorem t_K_deliver (K : kP z W h c n) {u v : Nat} (u1 : 1 ≤ u) (u2 : u < 4) (v1 : 1 ≤ v) (v2 : v < 4) (hg : isN (c 26 u) (kC W + 1)) (hi : kIn W c v) : ∃ W' h', f_K_deliver z [.ref (kg W 0 0), .ref (kg W 2 u), .ref (kg W 2 v)] (kPut W h c) = some (.inl none, kPut W' h' (kDelS W c n u v)) ∧ kFr 2 2007 W h W' h' ∧ kXt W W' ∧ kT W' = kT W ∧ (kDelOk c u v → kC W' = kC W + 1 ∧ n + 1 ≤ kcap W') ∧ (¬ kDelOk c u v → W' = W) := by
  have ok := K.1
  obtain ⟨W', h', c', e, p1, p2, p3, p4, p5⟩ := t_K_handOver (z := z) (u := u) K v1 v2 hg hi
  refine ⟨W', h', ?_, p1, p2, p3, fun q => ⟨(p4 q).1, (p4 q).2.1⟩, fun q => (p5 q).1⟩
  refine E_K_deliver z _ (some (kg W 2 u)) (some (kg W 2 v)) _ _ ?_
  unfold D_K_deliver_0
  rw [Option.bind_some, kr_sent ok u1 u2, Option.bind_some, kisK ok, Option.bind_some]
  show xclI (f_K_handOver z [.ref (kg W 0 0), va_rf (kRC W (c 26 u)), .ref (kg W 2 v)] (kPut W h c)) _ = _
  rw [e, xclI_some, ← p2.1 2 u (by omega) (kDom2 u1 u2), kr_sentWord p1.1 u1 u2, Option.bind_some, kr_sentBadge p1.1 u1 u2, Option.bind_some, Option.bind_some, ← p2.1 2 v (by omega) (kDom2 v1 v2), kisL p1.1 v1 v2, Option.bind_some, t_L_hear p1.1 v1 v2, xclV_some]
  unfold kDelS
  by_cases q : kDelOk c u v
  · obtain ⟨-, -, e1⟩ := p4 q
    rw [if_pos q, if_pos q, e1]
    rfl
  · obtain ⟨-, -, e1⟩ := p5 q
    rw [if_neg q, if_neg q, e1]
end KP
