/-! The class: who waits at an object. -/
def kWA (W : kW) (c : mS) : Prop := ∀ t, 1 ≤ t → t < 4 → c 52 t = 0 ∨ ∃ o, o < kT W ∧ c 52 t = nI (o + 1)
def kFStep (c : mS) (o b t : Nat) : Nat := if c 52 t = nI (o + 1) ∧ (b = 0 ∨ c 23 t < c 23 b) then t else b
def kFirst (c : mS) (o : Nat) : Nat := kFStep c o (kFStep c o (kFStep c o 0 1) 2) 3
section KE
variable {z : xzs} {W : kW} {h : xH} {c : mS}
theorem kRT_eq (ok : kOk W h) (hT : kT W ≤ 50) {x : Int32} {o : Nat} (ho : o < kT W) (hx : x = 0 ∨ ∃ o, o < kT W ∧ x = nI (o + 1)) : kRT W x = some (kg W 5 o) ↔ x = nI (o + 1) := by
  rcases hx with e | ⟨o', h1, e⟩
  · rw [e, kRT_0]
    constructor
    · intro w
      cases w
    · intro w
      exact absurd w.symm (nI_ne0 (by omega) (by omega))
  · rw [e, kRT_n (by omega)]
    constructor
    · intro w
      rw [(kg_inj5 ok h1 ho).mp (Option.some.inj w)]
    · intro w
      have := (nI_eq (a := o' + 1) (b := o + 1) (by omega) (by omega)).mp w
      rw [show o' = o by omega]
theorem kFStep_lt {o b t : Nat} (hb : b < 4) (ht : t < 4) : kFStep c o b t < 4 := by
  unfold kFStep
  split
  · exact ht
  · exact hb
theorem kFirst_lt (c : mS) (o : Nat) : kFirst c o < 4 := kFStep_lt (kFStep_lt (kFStep_lt (by decide) (by decide)) (by decide)) (by decide)
theorem t_fat_step (ok : kOk W h) (F : kWf W c) (A : kWA W c) {o b i : Nat} (ho : o < kT W) (hb : b < 4) (hi : i < 3) {r : xR} (hn : B_K_firstAt_4 z (kg W 0 0) (some (kg W 5 o)) (kB W (kFStep c o b (i + 1))) (nI (i + 1)) (kPut W h c) = some r) : B_K_firstAt_4 z (kg W 0 0) (some (kg W 5 o)) (kB W b) (nI i) (kPut W h c) = some r := by
  refine E_K_firstAt_4 z _ _ _ _ _ _ ?_
  have n49 : ∀ b', B_K_firstAt_4 z (kg W 0 0) (some (kg W 5 o)) (kB W b') (nI (i + 1)) (kPut W h c) = some r → B_K_firstAt_49 z (kg W 0 0) (some (kg W 5 o)) (kB W b') (nI i) (kPut W h c) = some r := by
    intro b' e
    refine E_K_firstAt_49 z _ _ _ _ _ _ ?_
    unfold D_K_firstAt_49
    rw [ic_1, nI_1]
    exact e
  have n46 : kFStep c o b (i + 1) = i + 1 → B_K_firstAt_46 z (kg W 0 0) (some (kg W 5 o)) (nI i) (some (kg W 2 (i + 1))) (kPut W h c) = some r := by
    intro e
    refine E_K_firstAt_46 z _ _ _ _ _ _ ?_
    unfold D_K_firstAt_46
    have := n49 (i + 1)
    rw [kB, if_neg (by omega)] at this
    refine this ?_
    rw [e, kB, if_neg (by omega)] at hn
    exact hn
  have q := kRT_eq (x := c 52 (i + 1)) ok F.1.2.1 ho (A (i + 1) (by omega) (by omega))
  simp only [D_K_firstAt_4, kr_clients ok, Option.bind_some, kl_clients ok, ka_clients ok hi, kr_waitsAt ok (show 1 ≤ i + 1 by omega) (show i + 1 < 4 by omega)]
  rw [if_neg (show ¬ Int32.ofNat 3 ≤ nI i from nI_ge hi (by decide))]
  unfold kFStep at hn n46
  by_cases s0 : c 52 (i + 1) = nI (o + 1)
  · rw [if_pos (q.mpr s0)]
    by_cases b0 : b = 0
    · rw [kB, if_pos b0, xcase_n]
      exact n46 (if_pos ⟨s0, Or.inl b0⟩)
    · rw [kB, if_neg b0, xcase_s, kr_since ok (by omega) (by omega), kr_since ok (by omega) hb, Option.bind_some, Option.bind_some]
      by_cases q : c 23 b ≤ c 23 (i + 1)
      · rw [if_pos q]
        rw [if_neg (by rintro ⟨-, w | w⟩; exact b0 w; exact k2_nle w q)] at hn
        have := n49 b hn
        rw [kB, if_neg b0] at this
        exact this
      · rw [if_neg q]
        exact n46 (if_pos ⟨s0, Or.inr (k2_lt q)⟩)
  · rw [if_neg (fun w => s0 (q.mp w))]
    rw [if_neg (fun w => s0 w.1)] at hn
    exact n49 b hn
theorem t_K_firstAt (ok : kOk W h) (F : kWf W c) (A : kWA W c) {o : Nat} (ho : o < kT W) : f_K_firstAt z [.ref (kg W 0 0), .ref (kg W 5 o)] (kPut W h c) = some (.inl (some (va_rf (kB W (kFirst c o)))), kPut W h c) := by
  refine E_K_firstAt z _ (some (kg W 5 o)) _ _ ?_
  unfold D_K_firstAt_0
  have l1 : kFStep c o 0 1 < 4 := kFStep_lt (by decide) (by decide)
  have l2 : kFStep c o (kFStep c o 0 1) 2 < 4 := kFStep_lt l1 (by decide)
  refine t_fat_step (b := 0) (i := 0) ok F A ho (by decide) (by decide) (t_fat_step (i := 1) ok F A ho l1 (by decide) (t_fat_step (i := 2) ok F A ho l2 (by decide) ?_))
  refine E_K_firstAt_4 z _ _ _ _ _ _ ?_
  simp only [D_K_firstAt_4, kr_clients ok, Option.bind_some, kl_clients ok]
  rw [if_pos (show Int32.ofNat 3 ≤ nI 3 from nI_le (Nat.le_refl _) (by decide))]
  rfl
def kRecv (c : mS) (o : Nat) : Nat := if kFirst c o ≠ 0 ∧ c 15 (kFirst c o) = nI 4 then kFirst c o else 0
def kSend (c : mS) (o : Nat) : Nat := if kFirst c o ≠ 0 ∧ ¬ c 15 (kFirst c o) = nI 4 then kFirst c o else 0
theorem t_K_firstReceiving (ok : kOk W h) (F : kWf W c) (A : kWA W c) {o : Nat} (ho : o < kT W) : f_K_firstReceiving z [.ref (kg W 0 0), .ref (kg W 5 o)] (kPut W h c) = some (.inl (some (va_rf (kB W (kRecv c o)))), kPut W h c) := by
  refine E_K_firstReceiving z _ (some (kg W 5 o)) _ _ ?_
  have n22 : B_K_firstReceiving_22 z (kPut W h c) = some (.inl (some (va_rf none)), kPut W h c) := by
    refine E_K_firstReceiving_22 z _ _ ?_
    unfold D_K_firstReceiving_22
    exact E_K_firstReceiving_23 z _ _ _ rfl
  unfold D_K_firstReceiving_0
  rw [kisK ok, Option.bind_some]
  show xclR (f_K_firstAt z [.ref (kg W 0 0), .ref (kg W 5 o)] (kPut W h c)) _ = _
  rw [t_K_firstAt ok F A ho, xclR_some]
  have hl := kFirst_lt c o
  unfold kRecv
  by_cases k0 : kFirst c o = 0
  · rw [kB, if_pos k0, xcase_n, n22, if_neg (fun w => w.1 k0)]
    rfl
  · rw [kB, if_neg k0, xcase_s, kr_state ok (by omega) hl, Option.bind_some, ic_4]
    by_cases k1 : c 15 (kFirst c o) = nI 4
    · rw [if_neg (fun w => w k1), if_pos ⟨k0, k1⟩, kB, if_neg k0]
      exact E_K_firstReceiving_23 z _ _ _ rfl
    · rw [if_pos k1, n22, if_neg (fun w => k1 w.2)]
      rfl
theorem t_K_firstSending (ok : kOk W h) (F : kWf W c) (A : kWA W c) {o : Nat} (ho : o < kT W) : f_K_firstSending z [.ref (kg W 0 0), .ref (kg W 5 o)] (kPut W h c) = some (.inl (some (va_rf (kB W (kSend c o)))), kPut W h c) := by
  refine E_K_firstSending z _ (some (kg W 5 o)) _ _ ?_
  have n22 : B_K_firstSending_22 z (kPut W h c) = some (.inl (some (va_rf none)), kPut W h c) := by
    refine E_K_firstSending_22 z _ _ ?_
    unfold D_K_firstSending_22
    exact E_K_firstSending_23 z _ _ _ rfl
  unfold D_K_firstSending_0
  rw [kisK ok, Option.bind_some]
  show xclR (f_K_firstAt z [.ref (kg W 0 0), .ref (kg W 5 o)] (kPut W h c)) _ = _
  rw [t_K_firstAt ok F A ho, xclR_some]
  have hl := kFirst_lt c o
  unfold kSend
  by_cases k0 : kFirst c o = 0
  · rw [kB, if_pos k0, xcase_n, n22, if_neg (fun w => w.1 k0)]
    rfl
  · rw [kB, if_neg k0, xcase_s, kr_state ok (by omega) hl, Option.bind_some, ic_4]
    by_cases k1 : c 15 (kFirst c o) = nI 4
    · rw [if_pos k1, n22, if_neg (fun w => w.2 k1)]
      rfl
    · rw [if_neg k1, if_pos ⟨k0, k1⟩, kB, if_neg k0]
      exact E_K_firstSending_23 z _ _ _ rfl
-- how many
def kHStep (c : mS) (o n t : Nat) : Nat := if c 52 t = nI (o + 1) then n + 1 else n
def kHow (c : mS) (o : Nat) : Nat := kHStep c o (kHStep c o (kHStep c o 0 1) 2) 3
theorem t_hma_step (ok : kOk W h) (F : kWf W c) (A : kWA W c) {o n i : Nat} (ho : o < kT W) (hi : i < 3) {r : xR} (hn : B_K_howManyAt_4 z (kg W 0 0) (some (kg W 5 o)) (nI (kHStep c o n (i + 1))) (nI (i + 1)) (kPut W h c) = some r) : B_K_howManyAt_4 z (kg W 0 0) (some (kg W 5 o)) (nI n) (nI i) (kPut W h c) = some r := by
  refine E_K_howManyAt_4 z _ _ _ _ _ _ ?_
  have n29 : ∀ n', B_K_howManyAt_4 z (kg W 0 0) (some (kg W 5 o)) (nI n') (nI (i + 1)) (kPut W h c) = some r → B_K_howManyAt_29 z (kg W 0 0) (some (kg W 5 o)) (nI n') (nI i) (kPut W h c) = some r := by
    intro b' e
    refine E_K_howManyAt_29 z _ _ _ _ _ _ ?_
    unfold D_K_howManyAt_29
    rw [ic_1, nI_1]
    exact e
  have q := kRT_eq (x := c 52 (i + 1)) ok F.1.2.1 ho (A (i + 1) (by omega) (by omega))
  simp only [D_K_howManyAt_4, kr_clients ok, Option.bind_some, kl_clients ok, ka_clients ok hi, kr_waitsAt ok (show 1 ≤ i + 1 by omega) (show i + 1 < 4 by omega)]
  rw [if_neg (show ¬ Int32.ofNat 3 ≤ nI i from nI_ge hi (by decide))]
  unfold kHStep at hn
  by_cases s0 : c 52 (i + 1) = nI (o + 1)
  · rw [if_pos (q.mpr s0), ic_1, nI_1]
    rw [if_pos s0] at hn
    exact n29 _ hn
  · rw [if_neg (fun w => s0 (q.mp w))]
    rw [if_neg s0] at hn
    exact n29 _ hn
theorem t_K_howManyAt (ok : kOk W h) (F : kWf W c) (A : kWA W c) {o : Nat} (ho : o < kT W) : f_K_howManyAt z [.ref (kg W 0 0), .ref (kg W 5 o)] (kPut W h c) = some (.inl (some (.int (nI (kHow c o)))), kPut W h c) := by
  refine E_K_howManyAt z _ (some (kg W 5 o)) _ _ ?_
  unfold D_K_howManyAt_0
  refine t_hma_step (n := 0) (i := 0) ok F A ho (by decide) (t_hma_step (i := 1) ok F A ho (by decide) (t_hma_step (i := 2) ok F A ho (by decide) ?_))
  refine E_K_howManyAt_4 z _ _ _ _ _ _ ?_
  simp only [D_K_howManyAt_4, kr_clients ok, Option.bind_some, kl_clients ok]
  rw [if_pos (show Int32.ofNat 3 ≤ nI 3 from nI_le (Nat.le_refl _) (by decide))]
  rfl
-- all are aborted
def kAb1 (c : mS) (o : Nat) : mS := if kFirst c o = 0 then c else kReady (sS c 16 (kFirst c o) 1) (kFirst c o)
def kAbort (c : mS) (o : Nat) : mS := kAb1 (kAb1 (kAb1 c o) o) o
theorem kAb1_ne {o f j : Nat} (h1 : f ≠ 15) (h2 : f ≠ 16) (h3 : f ≠ 52) (h4 : f ≠ 31) (h5 : f ≠ 21) : kAb1 c o f j = c f j := by
  unfold kAb1
  split
  · rfl
  · simp only [kReady, sS_app, h1, h2, h3, h4, h5, false_and, ↓reduceIte]
theorem kAb1_F (F : kWf W c) (o : Nat) : kWf W (kAb1 c o) := by
  refine ⟨F.1, fun i hi => ?_, fun j q1 q2 => ?_, fun j q1 q2 => ?_, fun t q1 q2 => ?_⟩
  · rw [kAb1_ne (by decide) (by decide) (by decide) (by decide) (by decide)]; exact F.2.1 i hi
  · rw [kAb1_ne (by decide) (by decide) (by decide) (by decide) (by decide)]; exact F.2.2.1 j q1 q2
  · rw [kAb1_ne (by decide) (by decide) (by decide) (by decide) (by decide)]; exact F.2.2.2.1 j q1 q2
  · rw [kAb1_ne (by decide) (by decide) (by decide) (by decide) (by decide)]; exact F.2.2.2.2 t q1 q2
theorem kAb1_A (A : kWA W c) (o : Nat) : kWA W (kAb1 c o) := by
  intro t q1 q2
  unfold kAb1
  split
  · exact A t q1 q2
  · by_cases e : t = kFirst c o
    · refine Or.inl ?_
      rw [← e]
      simp only [kReady, sS_app, Nat.reduceEqDiff, false_and, ↓reduceIte, and_self]
    · have := A t q1 q2
      simp only [kReady, sS_app, Nat.reduceEqDiff, false_and, ↓reduceIte, e, and_false]
      exact this
theorem t_abo_step (ok : kOk W h) (F : kWf W c) (A : kWA W c) {o i : Nat} (ho : o < kT W) (hi : i < 3) {r : xR} (hn : B_K_abortAllAt_2 z (kg W 0 0) (some (kg W 5 o)) (nI (i + 1)) (kPut W h (kAb1 c o)) = some r) : B_K_abortAllAt_2 z (kg W 0 0) (some (kg W 5 o)) (nI i) (kPut W h c) = some r := by
  refine E_K_abortAllAt_2 z _ _ _ _ _ ?_
  unfold D_K_abortAllAt_2
  rw [ic_3, if_neg (nI_ge hi (by decide)), kisK ok, Option.bind_some]
  show xclR (f_K_firstAt z [.ref (kg W 0 0), .ref (kg W 5 o)] (kPut W h c)) _ = _
  rw [t_K_firstAt ok F A ho, xclR_some]
  have hl := kFirst_lt c o
  unfold kAb1 at hn
  have n27 : ∀ c', B_K_abortAllAt_2 z (kg W 0 0) (some (kg W 5 o)) (nI (i + 1)) (kPut W h c') = some r → B_K_abortAllAt_27 z (kg W 0 0) (some (kg W 5 o)) (nI i) (kPut W h c') = some r := by
    intro c' e
    refine E_K_abortAllAt_27 z _ _ _ _ _ ?_
    unfold D_K_abortAllAt_27
    rw [ic_1, nI_1]
    exact e
  by_cases k0 : kFirst c o = 0
  · rw [kB, if_pos k0, xcase_n]
    rw [if_pos k0] at hn
    exact n27 _ hn
  · rw [kB, if_neg k0, xcase_s, kw_outcome ok (by omega) hl, Option.bind_some, kisK ok, Option.bind_some, ic_1, t_K_makeReady ok (by omega) hl, xclV_some]
    rw [if_neg k0] at hn
    exact n27 _ hn
theorem t_K_abortAllAt (ok : kOk W h) (F : kWf W c) (A : kWA W c) {o : Nat} (ho : o < kT W) : f_K_abortAllAt z [.ref (kg W 0 0), .ref (kg W 5 o)] (kPut W h c) = some (.inl none, kPut W h (kAbort c o)) := by
  refine E_K_abortAllAt z _ (some (kg W 5 o)) _ _ ?_
  unfold D_K_abortAllAt_0
  refine t_abo_step (i := 0) ok F A ho (by decide) (t_abo_step (i := 1) ok (kAb1_F F o) (kAb1_A A o) ho (by decide) (t_abo_step (i := 2) ok (kAb1_F (kAb1_F F o) o) (kAb1_A (kAb1_A A o) o) ho (by decide) ?_))
  refine E_K_abortAllAt_2 z _ _ _ _ _ ?_
  unfold D_K_abortAllAt_2
  rw [ic_3, if_pos (nI_le (Nat.le_refl _) (by decide))]
  rfl
-- asking, bits
def kAsks (c : mS) (t v : Nat) : mS := sS (sS (sS (sS c 15 t (nI 3)) 52 t 0) 29 v (nI t)) 30 v (c 28 t)
theorem t_K_beginAsking (ok : kOk W h) {t v : Nat} (h1 : 1 ≤ t) (h2 : t < 4) (h3 : 1 ≤ v) (h4 : v < 4) : f_K_beginAsking z [.ref (kg W 2 t), .ref (kg W 2 v)] (kPut W h c) = some (.inl none, kPut W h (kAsks c t v)) := by
  refine E_K_beginAsking z (some (kg W 2 t)) (some (kg W 2 v)) _ _ ?_
  have q := kw_waitsAt (c := sS c 15 t (nI 3)) ok h1 h2 0
  rw [kRT_0] at q
  have q2 := kw_asker (c := sS (sS c 15 t (nI 3)) 52 t 0) ok h3 h4 (nI t)
  rw [kRL_n h1 (by omega)] at q2
  simp only [D_K_beginAsking_0, Option.bind_some, kw_state ok h1 h2, ic_3, q, q2, kr_calls ok h1 h2, kw_askersCall ok h3 h4, sS_app, Nat.reduceEqDiff, false_and, ↓reduceIte]
  rfl
theorem t_K_takeBits (ok : kOk W h) {t o : Nat} (h1 : 1 ≤ t) (h2 : t < 4) (ho : o < kT W) : f_K_takeBits z [.ref (kg W 2 t), .ref (kg W 5 o)] (kPut W h c) = some (.inl none, kPut W h (sS (mComes c t (c 4 o) 0 (-1)) 4 o 0)) := by
  refine E_K_takeBits z (some (kg W 2 t)) (some (kg W 5 o)) _ _ ?_
  simp only [D_K_takeBits_0, Option.bind_some, kr_bits ok ho, kisL ok h1 h2, ic_0, ic_m1, t_L_hear ok h1 h2, xclV_some, kw_bits ok ho]
end KE
