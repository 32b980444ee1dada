/-! THE FIRST STATE of class and reference. -/
def idxL : List (Nat × Nat × Nat) := [(0, 0, 0), (0, 1, 1), (0, 2, 2), (0, 3, 45), (0, 4, 5), (0, 5, 6), (0, 6, 7), (0, 7, 8), (0, 8, 9), (0, 9, 10), (0, 10, 11), (1, 1, 23), (1, 2, 25), (1, 3, 26), (1, 4, 27), (1, 5, 33), (1, 6, 34), (1, 7, 35), (1, 8, 36), (1, 9, 42), (1, 10, 43), (1, 11, 44), (1, 12, 46), (2, 1, 18), (2, 2, 28), (2, 3, 37), (5, 0, 12), (5, 1, 3), (5, 2, 19), (5, 3, 29), (5, 4, 38), (5, 5, 21), (5, 6, 31), (5, 7, 40), (5, 8, 14), (5, 9, 16), (6, 0, 13), (6, 1, 4), (6, 2, 20), (6, 3, 30), (6, 4, 39), (6, 5, 22), (6, 6, 32), (6, 7, 41), (6, 8, 15), (6, 9, 17)]
def idxF : List (Nat × Nat × Nat) → Nat → Nat → Nat
  | [], _, _ => 0
  | q :: t, f, j => if q.1 = f ∧ q.2.1 = j then q.2.2 else idxF t f j
def idxA : List (Nat × Nat × Nat) → Nat → Option (Nat × Nat)
  | [], _ => none
  | q :: t, i => if q.2.2 = i then some (q.1, q.2.1) else idxA t i
def W0 (b : Nat) : kW := (fun a => if b ≤ a then idxA idxL (a - b) else none, fun f j => b + idxF idxL f j, 15, 10, 12)
def sE : mS := mNewA (mNewA (mNewA mS1 1) 2) 3
def c4 (c : mS) (t n : Nat) : mS := kDerS (kDerS (kDerS (kDerS c (n + 1) 0 (nI 2) (nI t) 0 (1 + t) 0 n) (n + 2) (4 + t) (nI 7) 0 0 (1 + t) 1 (n + 1)) (n + 3) 8 (nI 7) 0 0 (1 + t) 2 (n + 2)) (n + 4) 9 (nI 7) 0 0 (1 + t) 3 (n + 3)
def c0 : mS := c4 (c4 (c4 sE 1 0) 2 4) 3 8
theorem W0_A (b i : Nat) : kA (W0 b) (b + i) = idxA idxL i := by
  show (if b ≤ b + i then idxA idxL (b + i - b) else none) = _
  rw [if_pos (Nat.le_add_right _ _), Nat.add_sub_cancel_left]
theorem W0_g (b f j : Nat) : kg (W0 b) f j = b + idxF idxL f j := rfl
theorem idx_0 : ∀ j, j < 11 → idxA idxL (idxF idxL 0 j) = some (0, j) ∧ idxF idxL 0 j < 47 := by decide +kernel
theorem idx_1 : ∀ j, j < 13 → 1 ≤ j → idxA idxL (idxF idxL 1 j) = some (1, j) ∧ idxF idxL 1 j < 47 := by decide +kernel
theorem idx_2 : ∀ j, j < 4 → 1 ≤ j → idxA idxL (idxF idxL 2 j) = some (2, j) ∧ idxF idxL 2 j < 47 := by decide +kernel
theorem idx_5 : ∀ j, j < 10 → idxA idxL (idxF idxL 5 j) = some (5, j) ∧ idxF idxL 5 j < 47 := by decide +kernel
theorem idx_6 : ∀ j, j < 10 → idxA idxL (idxF idxL 6 j) = some (6, j) ∧ idxF idxL 6 j < 47 := by decide +kernel
theorem idx_in : ∀ q ∈ idxL, idxF idxL q.1 q.2.1 = q.2.2 ∧ ((q.1 = 0 ∧ q.2.1 < 11) ∨ (q.1 = 1 ∧ 1 ≤ q.2.1 ∧ q.2.1 ≤ 12) ∨ (q.1 = 2 ∧ 1 ≤ q.2.1 ∧ q.2.1 < 4) ∨ (q.1 = 5 ∧ q.2.1 < 10) ∨ (q.1 = 6 ∧ q.2.1 < 10)) := by decide +kernel
theorem idxA_mem {i : Nat} {d : Nat × Nat} : ∀ {t : List (Nat × Nat × Nat)}, idxA t i = some d → (d.1, d.2, i) ∈ t
  | [], h => by cases h
  | q :: t, h => by
    unfold idxA at h
    split at h
    · rename_i e
      cases h
      rw [← e]
      exact List.mem_cons_self
    · exact List.mem_cons_of_mem _ (idxA_mem h)
theorem W0_ok {b : Nat} {h : xH} (h1 : h.1 = b) (h2 : b + 47 ≤ xn h) : kOk (W0 b) h := by
  refine ⟨fun f j D => ?_, fun a d hd => ?_⟩
  · have key : idxA idxL (idxF idxL f j) = some (f, j) ∧ idxF idxL f j < 47 := by
      rcases D with ⟨rfl, w⟩ | ⟨rfl, w1, w2⟩ | ⟨rfl, w1, w2⟩ | ⟨rfl, w⟩ | ⟨rfl, w⟩
      · exact idx_0 j w
      · exact idx_1 j (Nat.lt_succ_of_le w2) w1
      · exact idx_2 j w2 w1
      · exact idx_5 j w
      · exact idx_6 j w
    refine ⟨by rw [W0_g, W0_A]; exact key.1, by rw [W0_g, h1]; omega, by rw [W0_g]; omega⟩
  · have hd : (if b ≤ a then idxA idxL (a - b) else none) = some d := hd
    split at hd
    · rename_i hb
      obtain ⟨k1, k2⟩ := idx_in _ (idxA_mem hd)
      refine ⟨?_, by rw [W0_g]; have k1 : idxF idxL d.1 d.2 = a - b := k1; omega⟩
      rcases k2 with ⟨w1, w2⟩ | ⟨w1, w2, w3⟩ | ⟨w1, w2, w3⟩ | ⟨w1, w2⟩ | ⟨w1, w2⟩
      · exact Or.inl ⟨w1, w2⟩
      · exact Or.inr (Or.inl ⟨w1, w2, w3⟩)
      · exact Or.inr (Or.inr (Or.inl ⟨w1, w2, w3⟩))
      · exact Or.inr (Or.inr (Or.inr (Or.inl ⟨w1, w2⟩)))
      · exact Or.inr (Or.inr (Or.inr (Or.inr ⟨w1, w2⟩)))
    · cases hd
/-- the same cell, as far as its array goes -/
def eEq (e e' : va_E) : Prop := e = e' ∨ ∃ kd n f f', e = kQ n f kd ∧ e' = kQ n f' kd ∧ ∀ i, i < n → f i = f' i
theorem kDerS_z {c : mS} {n0 th o i n f : Nat} {r b p : Int32} (hf : f = 35 ∨ f = 73 ∨ f = 74 ∨ f = 75 ∨ f = 76) : kDerS c n0 th r b p o i n f = c f := by
  funext j
  have h1 : f ≠ 8 := by omega
  have h2 : f ≠ 9 := by omega
  have h3 : f ≠ 10 := by omega
  have h4 : f ≠ 11 := by omega
  have h5 : f ≠ 12 := by omega
  have h6 : f ≠ 14 := by omega
  have h7 : f ≠ 61 := by omega
  have h8 : f ≠ 64 := by omega
  have h9 : f ≠ 65 := by omega
  have h10 : f ≠ 70 := by omega
  have h11 : f ≠ 71 := by omega
  have h12 : f ≠ 72 := by omega
  simp only [kDerS, kPutS, kLadd, cNew, sS_app, h1, h2, h3, h4, h5, h6, h7, h8, h9, h10, h11, h12, false_and, ↓reduceIte]
theorem c0_z (f : Nat) (hf : f = 35 ∨ f = 73 ∨ f = 74 ∨ f = 75 ∨ f = 76) : c0 f = fun _ => 0 := by
  unfold c0 c4
  simp only [kDerS_z hf]
  rcases hf with rfl | rfl | rfl | rfl | rfl <;> rfl
theorem kc_0 (z : xzs) (b : Nat) : eEq (.inr (0, [.ref (b + 1), .ref (b + 3), .ref (b + 5), .int 0, .int 0, .int (nI 2 + 1), .ref (b + 2)])) (kCell (W0 b) c0 (0, 0)) := Or.inl (by
  show _ = (Sum.inr (0, [.ref (kg (W0 b) 0 1), .ref (kg (W0 b) 5 1), .ref (kg (W0 b) 0 4), .int (c0 69 0), .int (c0 68 0), .int (c0 31 0), .ref (kg (W0 b) 0 2)]) : va_E)
  rw [show c0 69 0 = 0 from by decide +kernel, show c0 68 0 = 0 from by decide +kernel, show c0 31 0 = (nI 2 + 1) from by decide +kernel]
  rfl)
theorem kc_1 (z : xzs) (b : Nat) : eEq (kQ 3 (va_up (va_up (va_up (fun _ => none) 0 (some (b + 18))) 1 (some (b + 28))) 2 (some (b + 37))) 3) (kCell (W0 b) c0 (0, 1)) := Or.inr ⟨3, 3, _, _, rfl, rfl, fun i hi => by
    rcases (by omega : i = 0 ∨ i = 1 ∨ i = 2) with rfl | rfl | rfl <;> rfl⟩
theorem kc_2 (z : xzs) (b : Nat) : eEq (.inr (7, [.ref (b + 45), .int (0 + 1 + 1 + 1 + 1 + 1 + 1 + 1 + 1 + 1 + 1 + 1 + 1), .int (nI 12)])) (kCell (W0 b) c0 (0, 2)) := Or.inl (by
  show _ = (Sum.inr (7, [.ref (kg (W0 b) 0 3), .int (c0 72 0), .int (c0 71 0)]) : va_E)
  rw [show c0 72 0 = (0 + 1 + 1 + 1 + 1 + 1 + 1 + 1 + 1 + 1 + 1 + 1 + 1) from by decide +kernel, show c0 71 0 = (nI 12) from by decide +kernel]
  rfl)
theorem kc_3 (z : xzs) (b : Nat) : eEq (.inr (5, [.int (nI 1), .int (nI 0), .int (nI 2), .ref (b + 4), .int 0, .int 0, .int 0, .int 0, .int 0, .int 0, .null])) (kCell (W0 b) c0 (5, 1)) := Or.inl (by
  show _ = (Sum.inr (5, [.int (c0 1 1), .int (c0 2 1), .int (kSrv 1), .ref (kg (W0 b) 6 1), .int (kNum 1), .int (c0 3 1), .int (c0 4 1), .int (c0 61 1), .int (c0 62 1), .int (kG (c0 6 1)), va_rf (kRO (W0 b) (c0 5 1))]) : va_E)
  rw [show c0 1 1 = (nI 1) from by decide +kernel, show c0 2 1 = (nI 0) from by decide +kernel, show c0 3 1 = 0 from by decide +kernel, show c0 4 1 = 0 from by decide +kernel, show c0 61 1 = 0 from by decide +kernel, show c0 62 1 = 0 from by decide +kernel, show c0 6 1 = 1 from by decide +kernel, show c0 5 1 = 0 from by decide +kernel]
  rfl)
theorem kc_4 (z : xzs) (b : Nat) : eEq (kQ 0 (fun _ => none) 2) (kCell (W0 b) c0 (6, 1)) := Or.inr ⟨2, 0, _, _, rfl, by
  show kQ (if c0 1 1 = nI 3 then 8 else 0) _ 2 = _
  rw [if_neg (show ¬ c0 1 1 = nI 3 by decide +kernel)], fun i hi => absurd hi (Nat.not_lt_zero _)⟩
theorem kc_5 (z : xzs) (b : Nat) : eEq (.inr (4, [.ref (b + 6), .ref (b + 8), .ref (b + 9), .ref (b + 10), .ref (b + 11)])) (kCell (W0 b) c0 (0, 4)) := Or.inl rfl
theorem kc_6 (z : xzs) (b : Nat) : eEq (.inr (3, [.ref (b + 7), .int 0, .int 0])) (kCell (W0 b) c0 (0, 5)) := Or.inl (by
  show _ = (Sum.inr (3, [.ref (kg (W0 b) 0 6), .int (c0 36 0), .int (c0 37 0)]) : va_E)
  rw [show c0 36 0 = 0 from by decide +kernel, show c0 37 0 = 0 from by decide +kernel]
  rfl)
theorem kc_7 (z : xzs) (b : Nat) : eEq (.inl (0, 48, .inl (fun _ => 0))) (kCell (W0 b) c0 (0, 6)) := Or.inl (by
  show _ = (Sum.inl (0, 48, Sum.inl (c0 35)) : va_E)
  rw [c0_z 35 (by decide)])
theorem kc_8 (z : xzs) (b : Nat) : eEq (.inl (1, 6, .inl (fun _ => 0))) (kCell (W0 b) c0 (0, 7)) := Or.inl (by
  show _ = (Sum.inl (1, 6, Sum.inl (c0 73)) : va_E)
  rw [c0_z 73 (by decide)])
theorem kc_9 (z : xzs) (b : Nat) : eEq (.inl (0, 6, .inl (fun _ => 0))) (kCell (W0 b) c0 (0, 8)) := Or.inl (by
  show _ = (Sum.inl (0, 6, Sum.inl (c0 74)) : va_E)
  rw [c0_z 74 (by decide)])
theorem kc_10 (z : xzs) (b : Nat) : eEq (.inl (0, 6, .inl (fun _ => 0))) (kCell (W0 b) c0 (0, 9)) := Or.inl (by
  show _ = (Sum.inl (0, 6, Sum.inl (c0 75)) : va_E)
  rw [c0_z 75 (by decide)])
theorem kc_11 (z : xzs) (b : Nat) : eEq (.inl (0, 8, .inl (fun _ => 0))) (kCell (W0 b) c0 (0, 10)) := Or.inl (by
  show _ = (Sum.inl (0, 8, Sum.inl (c0 76)) : va_E)
  rw [c0_z 76 (by decide)])
theorem kc_12 (z : xzs) (b : Nat) : eEq (.inr (5, [.int (nI 1), .int (nI 0), .int (nI 1), .ref (b + 13), .int 0, .int 0, .int 0, .int (0 + 1 + 1 + 1), .int 0, .int 0, .null])) (kCell (W0 b) c0 (5, 0)) := Or.inl (by
  show _ = (Sum.inr (5, [.int (c0 1 0), .int (c0 2 0), .int (kSrv 0), .ref (kg (W0 b) 6 0), .int (kNum 0), .int (c0 3 0), .int (c0 4 0), .int (c0 61 0), .int (c0 62 0), .int (kG (c0 6 0)), va_rf (kRO (W0 b) (c0 5 0))]) : va_E)
  rw [show c0 1 0 = (nI 1) from by decide +kernel, show c0 2 0 = (nI 0) from by decide +kernel, show c0 3 0 = 0 from by decide +kernel, show c0 4 0 = 0 from by decide +kernel, show c0 61 0 = (0 + 1 + 1 + 1) from by decide +kernel, show c0 62 0 = 0 from by decide +kernel, show c0 6 0 = 1 from by decide +kernel, show c0 5 0 = 0 from by decide +kernel]
  rfl)
theorem kc_13 (z : xzs) (b : Nat) : eEq (kQ 0 (fun _ => none) 2) (kCell (W0 b) c0 (6, 0)) := Or.inr ⟨2, 0, _, _, rfl, by
  show kQ (if c0 1 0 = nI 3 then 8 else 0) _ 2 = _
  rw [if_neg (show ¬ c0 1 0 = nI 3 by decide +kernel)], fun i hi => absurd hi (Nat.not_lt_zero _)⟩
theorem kc_14 (z : xzs) (b : Nat) : eEq (.inr (5, [.int (nI 1), .int (nI 0), .int (nI 0), .ref (b + 15), .int 0, .int 0, .int 0, .int (0 + 1 + 1 + 1), .int 0, .int 0, .null])) (kCell (W0 b) c0 (5, 8)) := Or.inl (by
  show _ = (Sum.inr (5, [.int (c0 1 8), .int (c0 2 8), .int (kSrv 8), .ref (kg (W0 b) 6 8), .int (kNum 8), .int (c0 3 8), .int (c0 4 8), .int (c0 61 8), .int (c0 62 8), .int (kG (c0 6 8)), va_rf (kRO (W0 b) (c0 5 8))]) : va_E)
  rw [show c0 1 8 = (nI 1) from by decide +kernel, show c0 2 8 = (nI 0) from by decide +kernel, show c0 3 8 = 0 from by decide +kernel, show c0 4 8 = 0 from by decide +kernel, show c0 61 8 = (0 + 1 + 1 + 1) from by decide +kernel, show c0 62 8 = 0 from by decide +kernel, show c0 6 8 = 1 from by decide +kernel, show c0 5 8 = 0 from by decide +kernel]
  rfl)
theorem kc_15 (z : xzs) (b : Nat) : eEq (kQ 0 (fun _ => none) 2) (kCell (W0 b) c0 (6, 8)) := Or.inr ⟨2, 0, _, _, rfl, by
  show kQ (if c0 1 8 = nI 3 then 8 else 0) _ 2 = _
  rw [if_neg (show ¬ c0 1 8 = nI 3 by decide +kernel)], fun i hi => absurd hi (Nat.not_lt_zero _)⟩
theorem kc_16 (z : xzs) (b : Nat) : eEq (.inr (5, [.int (nI 2), .int (nI 0), .int (nI 0), .ref (b + 17), .int 0, .int 0, .int 0, .int (0 + 1 + 1 + 1), .int 0, .int 0, .null])) (kCell (W0 b) c0 (5, 9)) := Or.inl (by
  show _ = (Sum.inr (5, [.int (c0 1 9), .int (c0 2 9), .int (kSrv 9), .ref (kg (W0 b) 6 9), .int (kNum 9), .int (c0 3 9), .int (c0 4 9), .int (c0 61 9), .int (c0 62 9), .int (kG (c0 6 9)), va_rf (kRO (W0 b) (c0 5 9))]) : va_E)
  rw [show c0 1 9 = (nI 2) from by decide +kernel, show c0 2 9 = (nI 0) from by decide +kernel, show c0 3 9 = 0 from by decide +kernel, show c0 4 9 = 0 from by decide +kernel, show c0 61 9 = (0 + 1 + 1 + 1) from by decide +kernel, show c0 62 9 = 0 from by decide +kernel, show c0 6 9 = 1 from by decide +kernel, show c0 5 9 = 0 from by decide +kernel]
  rfl)
theorem kc_17 (z : xzs) (b : Nat) : eEq (kQ 0 (fun _ => none) 2) (kCell (W0 b) c0 (6, 9)) := Or.inr ⟨2, 0, _, _, rfl, by
  show kQ (if c0 1 9 = nI 3 then 8 else 0) _ 2 = _
  rw [if_neg (show ¬ c0 1 9 = nI 3 by decide +kernel)], fun i hi => absurd hi (Nat.not_lt_zero _)⟩
theorem kc_18 (z : xzs) (b : Nat) : eEq (.inr (2, [.int (nI 1), .ref (b + 19), .int 0, .int 0, .int 0, .int 0, .int 0, .int 1, .int (nI 0 + 1), .int 0, .null, .int 0, .int 0, .null, .null, .int 0, .int 0, .null, .int 0])) (kCell (W0 b) c0 (2, 1)) := Or.inl (by
  show _ = (Sum.inr (2, [.int (nI 1), .ref (kg (W0 b) 5 (1 + 1)), .int (c0 15 1), .int (c0 16 1), .int (c0 17 1), .int (c0 18 1), .int (c0 19 1), .int (c0 20 1), .int (c0 21 1), .int (c0 23 1), va_rf (kRT (W0 b) (c0 52 1)), .int (c0 24 1), .int (c0 25 1), va_rf (kRC (W0 b) (c0 26 1)), va_rf (kRT (W0 b) (c0 56 1)), .int (c0 27 1), .int (c0 28 1), va_rf (kRL (W0 b) (c0 29 1)), .int (c0 30 1)]) : va_E)
  rw [show c0 15 1 = 0 from by decide +kernel, show c0 16 1 = 0 from by decide +kernel, show c0 17 1 = 0 from by decide +kernel, show c0 18 1 = 0 from by decide +kernel, show c0 19 1 = 0 from by decide +kernel, show c0 20 1 = 1 from by decide +kernel, show c0 21 1 = (nI 0 + 1) from by decide +kernel, show c0 23 1 = 0 from by decide +kernel, show c0 52 1 = 0 from by decide +kernel, show c0 24 1 = 0 from by decide +kernel, show c0 25 1 = 0 from by decide +kernel, show c0 26 1 = 0 from by decide +kernel, show c0 56 1 = 0 from by decide +kernel, show c0 27 1 = 0 from by decide +kernel, show c0 28 1 = 0 from by decide +kernel, show c0 29 1 = 0 from by decide +kernel, show c0 30 1 = 0 from by decide +kernel]
  rfl)
theorem kc_19 (z : xzs) (b : Nat) : eEq (.inr (5, [.int (nI 3), .int (nI 0), .int (nI 0), .ref (b + 20), .int 0, .int 0, .int 0, .int 0, .int 0, .int 0, .null])) (kCell (W0 b) c0 (5, 2)) := Or.inl (by
  show _ = (Sum.inr (5, [.int (c0 1 2), .int (c0 2 2), .int (kSrv 2), .ref (kg (W0 b) 6 2), .int (kNum 2), .int (c0 3 2), .int (c0 4 2), .int (c0 61 2), .int (c0 62 2), .int (kG (c0 6 2)), va_rf (kRO (W0 b) (c0 5 2))]) : va_E)
  rw [show c0 1 2 = (nI 3) from by decide +kernel, show c0 2 2 = (nI 0) from by decide +kernel, show c0 3 2 = 0 from by decide +kernel, show c0 4 2 = 0 from by decide +kernel, show c0 61 2 = 0 from by decide +kernel, show c0 62 2 = 0 from by decide +kernel, show c0 6 2 = 1 from by decide +kernel, show c0 5 2 = 0 from by decide +kernel]
  rfl)
theorem kc_20 (z : xzs) (b : Nat) : eEq (kQ 8 (va_up (va_up (va_up (va_up (fun _ => none) 0 (some (b + 23))) 1 (some (b + 25))) 2 (some (b + 26))) 3 (some (b + 27))) 2) (kCell (W0 b) c0 (6, 2)) := Or.inr ⟨2, 8, _, _, rfl, by
  show kQ (if c0 1 2 = nI 3 then 8 else 0) _ 2 = _
  rw [if_pos (show c0 1 2 = nI 3 by decide +kernel)], fun i hi => by
    rcases (by omega : i = 0 ∨ i = 1 ∨ i = 2 ∨ i = 3 ∨ i = 4 ∨ i = 5 ∨ i = 6 ∨ i = 7) with rfl | rfl | rfl | rfl | rfl | rfl | rfl | rfl
    · show _ = kRC (W0 b) (c0 14 16)
      rw [show c0 14 16 = nI 1 from by decide +kernel]
      rfl
    · show _ = kRC (W0 b) (c0 14 17)
      rw [show c0 14 17 = nI 2 from by decide +kernel]
      rfl
    · show _ = kRC (W0 b) (c0 14 18)
      rw [show c0 14 18 = nI 3 from by decide +kernel]
      rfl
    · show _ = kRC (W0 b) (c0 14 19)
      rw [show c0 14 19 = nI 4 from by decide +kernel]
      rfl
    · show _ = kRC (W0 b) (c0 14 20)
      rw [show c0 14 20 = 0 from by decide +kernel]
      rfl
    · show _ = kRC (W0 b) (c0 14 21)
      rw [show c0 14 21 = 0 from by decide +kernel]
      rfl
    · show _ = kRC (W0 b) (c0 14 22)
      rw [show c0 14 22 = 0 from by decide +kernel]
      rfl
    · show _ = kRC (W0 b) (c0 14 23)
      rw [show c0 14 23 = 0 from by decide +kernel]
      rfl⟩
theorem kc_21 (z : xzs) (b : Nat) : eEq (.inr (5, [.int (nI 0), .int (nI 16), .int (nI 0), .ref (b + 22), .int 0, .int 0, .int 0, .int (0 + 1), .int 0, .int 0, .null])) (kCell (W0 b) c0 (5, 5)) := Or.inl (by
  show _ = (Sum.inr (5, [.int (c0 1 5), .int (c0 2 5), .int (kSrv 5), .ref (kg (W0 b) 6 5), .int (kNum 5), .int (c0 3 5), .int (c0 4 5), .int (c0 61 5), .int (c0 62 5), .int (kG (c0 6 5)), va_rf (kRO (W0 b) (c0 5 5))]) : va_E)
  rw [show c0 1 5 = (nI 0) from by decide +kernel, show c0 2 5 = (nI 16) from by decide +kernel, show c0 3 5 = 0 from by decide +kernel, show c0 4 5 = 0 from by decide +kernel, show c0 61 5 = (0 + 1) from by decide +kernel, show c0 62 5 = 0 from by decide +kernel, show c0 6 5 = 1 from by decide +kernel, show c0 5 5 = 0 from by decide +kernel]
  rfl)
theorem kc_22 (z : xzs) (b : Nat) : eEq (kQ 0 (fun _ => none) 2) (kCell (W0 b) c0 (6, 5)) := Or.inr ⟨2, 0, _, _, rfl, by
  show kQ (if c0 1 5 = nI 3 then 8 else 0) _ 2 = _
  rw [if_neg (show ¬ c0 1 5 = nI 3 by decide +kernel)], fun i hi => absurd hi (Nat.not_lt_zero _)⟩
theorem kc_23 (z : xzs) (b : Nat) : eEq (.inr (1, [.ref (b + 12), .int (nI 2), .int (nI 1), .null, .ref (b + 19), .int (nI 0), .int 0])) (kCell (W0 b) c0 (1, 1)) := Or.inl (by
  show _ = (Sum.inr (1, [.ref (kg (W0 b) 5 (vN (c0 8 1))), .int (c0 9 1), .int (c0 10 1), va_rf (kRC (W0 b) (c0 11 1)), va_rf (kRT (W0 b) (c0 64 1)), .int (c0 65 1), .int (kG (c0 12 1))]) : va_E)
  rw [show c0 8 1 = nI 0 from by decide +kernel, show c0 9 1 = (nI 2) from by decide +kernel, show c0 10 1 = (nI 1) from by decide +kernel, show c0 11 1 = 0 from by decide +kernel, show c0 64 1 = nI 3 from by decide +kernel, show c0 65 1 = (nI 0) from by decide +kernel, show c0 12 1 = 1 from by decide +kernel]
  rfl)
theorem kc_25 (z : xzs) (b : Nat) : eEq (.inr (1, [.ref (b + 21), .int (nI 7), .int (nI 0), .null, .ref (b + 19), .int (nI 1), .int 0])) (kCell (W0 b) c0 (1, 2)) := Or.inl (by
  show _ = (Sum.inr (1, [.ref (kg (W0 b) 5 (vN (c0 8 2))), .int (c0 9 2), .int (c0 10 2), va_rf (kRC (W0 b) (c0 11 2)), va_rf (kRT (W0 b) (c0 64 2)), .int (c0 65 2), .int (kG (c0 12 2))]) : va_E)
  rw [show c0 8 2 = nI 5 from by decide +kernel, show c0 9 2 = (nI 7) from by decide +kernel, show c0 10 2 = (nI 0) from by decide +kernel, show c0 11 2 = 0 from by decide +kernel, show c0 64 2 = nI 3 from by decide +kernel, show c0 65 2 = (nI 1) from by decide +kernel, show c0 12 2 = 1 from by decide +kernel]
  rfl)
theorem kc_26 (z : xzs) (b : Nat) : eEq (.inr (1, [.ref (b + 14), .int (nI 7), .int (nI 0), .null, .ref (b + 19), .int (nI 2), .int 0])) (kCell (W0 b) c0 (1, 3)) := Or.inl (by
  show _ = (Sum.inr (1, [.ref (kg (W0 b) 5 (vN (c0 8 3))), .int (c0 9 3), .int (c0 10 3), va_rf (kRC (W0 b) (c0 11 3)), va_rf (kRT (W0 b) (c0 64 3)), .int (c0 65 3), .int (kG (c0 12 3))]) : va_E)
  rw [show c0 8 3 = nI 8 from by decide +kernel, show c0 9 3 = (nI 7) from by decide +kernel, show c0 10 3 = (nI 0) from by decide +kernel, show c0 11 3 = 0 from by decide +kernel, show c0 64 3 = nI 3 from by decide +kernel, show c0 65 3 = (nI 2) from by decide +kernel, show c0 12 3 = 1 from by decide +kernel]
  rfl)
theorem kc_27 (z : xzs) (b : Nat) : eEq (.inr (1, [.ref (b + 16), .int (nI 7), .int (nI 0), .null, .ref (b + 19), .int (nI 3), .int 0])) (kCell (W0 b) c0 (1, 4)) := Or.inl (by
  show _ = (Sum.inr (1, [.ref (kg (W0 b) 5 (vN (c0 8 4))), .int (c0 9 4), .int (c0 10 4), va_rf (kRC (W0 b) (c0 11 4)), va_rf (kRT (W0 b) (c0 64 4)), .int (c0 65 4), .int (kG (c0 12 4))]) : va_E)
  rw [show c0 8 4 = nI 9 from by decide +kernel, show c0 9 4 = (nI 7) from by decide +kernel, show c0 10 4 = (nI 0) from by decide +kernel, show c0 11 4 = 0 from by decide +kernel, show c0 64 4 = nI 3 from by decide +kernel, show c0 65 4 = (nI 3) from by decide +kernel, show c0 12 4 = 1 from by decide +kernel]
  rfl)
theorem kc_28 (z : xzs) (b : Nat) : eEq (.inr (2, [.int (nI 2), .ref (b + 29), .int 0, .int 0, .int 0, .int 0, .int 0, .int 1, .int (nI 1 + 1), .int 0, .null, .int 0, .int 0, .null, .null, .int 0, .int 0, .null, .int 0])) (kCell (W0 b) c0 (2, 2)) := Or.inl (by
  show _ = (Sum.inr (2, [.int (nI 2), .ref (kg (W0 b) 5 (1 + 2)), .int (c0 15 2), .int (c0 16 2), .int (c0 17 2), .int (c0 18 2), .int (c0 19 2), .int (c0 20 2), .int (c0 21 2), .int (c0 23 2), va_rf (kRT (W0 b) (c0 52 2)), .int (c0 24 2), .int (c0 25 2), va_rf (kRC (W0 b) (c0 26 2)), va_rf (kRT (W0 b) (c0 56 2)), .int (c0 27 2), .int (c0 28 2), va_rf (kRL (W0 b) (c0 29 2)), .int (c0 30 2)]) : va_E)
  rw [show c0 15 2 = 0 from by decide +kernel, show c0 16 2 = 0 from by decide +kernel, show c0 17 2 = 0 from by decide +kernel, show c0 18 2 = 0 from by decide +kernel, show c0 19 2 = 0 from by decide +kernel, show c0 20 2 = 1 from by decide +kernel, show c0 21 2 = (nI 1 + 1) from by decide +kernel, show c0 23 2 = 0 from by decide +kernel, show c0 52 2 = 0 from by decide +kernel, show c0 24 2 = 0 from by decide +kernel, show c0 25 2 = 0 from by decide +kernel, show c0 26 2 = 0 from by decide +kernel, show c0 56 2 = 0 from by decide +kernel, show c0 27 2 = 0 from by decide +kernel, show c0 28 2 = 0 from by decide +kernel, show c0 29 2 = 0 from by decide +kernel, show c0 30 2 = 0 from by decide +kernel]
  rfl)
theorem kc_29 (z : xzs) (b : Nat) : eEq (.inr (5, [.int (nI 3), .int (nI 0), .int (nI 0), .ref (b + 30), .int 0, .int 0, .int 0, .int 0, .int 0, .int 0, .null])) (kCell (W0 b) c0 (5, 3)) := Or.inl (by
  show _ = (Sum.inr (5, [.int (c0 1 3), .int (c0 2 3), .int (kSrv 3), .ref (kg (W0 b) 6 3), .int (kNum 3), .int (c0 3 3), .int (c0 4 3), .int (c0 61 3), .int (c0 62 3), .int (kG (c0 6 3)), va_rf (kRO (W0 b) (c0 5 3))]) : va_E)
  rw [show c0 1 3 = (nI 3) from by decide +kernel, show c0 2 3 = (nI 0) from by decide +kernel, show c0 3 3 = 0 from by decide +kernel, show c0 4 3 = 0 from by decide +kernel, show c0 61 3 = 0 from by decide +kernel, show c0 62 3 = 0 from by decide +kernel, show c0 6 3 = 1 from by decide +kernel, show c0 5 3 = 0 from by decide +kernel]
  rfl)
theorem kc_30 (z : xzs) (b : Nat) : eEq (kQ 8 (va_up (va_up (va_up (va_up (fun _ => none) 0 (some (b + 33))) 1 (some (b + 34))) 2 (some (b + 35))) 3 (some (b + 36))) 2) (kCell (W0 b) c0 (6, 3)) := Or.inr ⟨2, 8, _, _, rfl, by
  show kQ (if c0 1 3 = nI 3 then 8 else 0) _ 2 = _
  rw [if_pos (show c0 1 3 = nI 3 by decide +kernel)], fun i hi => by
    rcases (by omega : i = 0 ∨ i = 1 ∨ i = 2 ∨ i = 3 ∨ i = 4 ∨ i = 5 ∨ i = 6 ∨ i = 7) with rfl | rfl | rfl | rfl | rfl | rfl | rfl | rfl
    · show _ = kRC (W0 b) (c0 14 24)
      rw [show c0 14 24 = nI 5 from by decide +kernel]
      rfl
    · show _ = kRC (W0 b) (c0 14 25)
      rw [show c0 14 25 = nI 6 from by decide +kernel]
      rfl
    · show _ = kRC (W0 b) (c0 14 26)
      rw [show c0 14 26 = nI 7 from by decide +kernel]
      rfl
    · show _ = kRC (W0 b) (c0 14 27)
      rw [show c0 14 27 = nI 8 from by decide +kernel]
      rfl
    · show _ = kRC (W0 b) (c0 14 28)
      rw [show c0 14 28 = 0 from by decide +kernel]
      rfl
    · show _ = kRC (W0 b) (c0 14 29)
      rw [show c0 14 29 = 0 from by decide +kernel]
      rfl
    · show _ = kRC (W0 b) (c0 14 30)
      rw [show c0 14 30 = 0 from by decide +kernel]
      rfl
    · show _ = kRC (W0 b) (c0 14 31)
      rw [show c0 14 31 = 0 from by decide +kernel]
      rfl⟩
theorem kc_31 (z : xzs) (b : Nat) : eEq (.inr (5, [.int (nI 0), .int (nI 16), .int (nI 0), .ref (b + 32), .int 0, .int 0, .int 0, .int (0 + 1), .int 0, .int 0, .null])) (kCell (W0 b) c0 (5, 6)) := Or.inl (by
  show _ = (Sum.inr (5, [.int (c0 1 6), .int (c0 2 6), .int (kSrv 6), .ref (kg (W0 b) 6 6), .int (kNum 6), .int (c0 3 6), .int (c0 4 6), .int (c0 61 6), .int (c0 62 6), .int (kG (c0 6 6)), va_rf (kRO (W0 b) (c0 5 6))]) : va_E)
  rw [show c0 1 6 = (nI 0) from by decide +kernel, show c0 2 6 = (nI 16) from by decide +kernel, show c0 3 6 = 0 from by decide +kernel, show c0 4 6 = 0 from by decide +kernel, show c0 61 6 = (0 + 1) from by decide +kernel, show c0 62 6 = 0 from by decide +kernel, show c0 6 6 = 1 from by decide +kernel, show c0 5 6 = 0 from by decide +kernel]
  rfl)
theorem kc_32 (z : xzs) (b : Nat) : eEq (kQ 0 (fun _ => none) 2) (kCell (W0 b) c0 (6, 6)) := Or.inr ⟨2, 0, _, _, rfl, by
  show kQ (if c0 1 6 = nI 3 then 8 else 0) _ 2 = _
  rw [if_neg (show ¬ c0 1 6 = nI 3 by decide +kernel)], fun i hi => absurd hi (Nat.not_lt_zero _)⟩
theorem kc_33 (z : xzs) (b : Nat) : eEq (.inr (1, [.ref (b + 12), .int (nI 2), .int (nI 2), .null, .ref (b + 29), .int (nI 0), .int 0])) (kCell (W0 b) c0 (1, 5)) := Or.inl (by
  show _ = (Sum.inr (1, [.ref (kg (W0 b) 5 (vN (c0 8 5))), .int (c0 9 5), .int (c0 10 5), va_rf (kRC (W0 b) (c0 11 5)), va_rf (kRT (W0 b) (c0 64 5)), .int (c0 65 5), .int (kG (c0 12 5))]) : va_E)
  rw [show c0 8 5 = nI 0 from by decide +kernel, show c0 9 5 = (nI 2) from by decide +kernel, show c0 10 5 = (nI 2) from by decide +kernel, show c0 11 5 = 0 from by decide +kernel, show c0 64 5 = nI 4 from by decide +kernel, show c0 65 5 = (nI 0) from by decide +kernel, show c0 12 5 = 1 from by decide +kernel]
  rfl)
theorem kc_34 (z : xzs) (b : Nat) : eEq (.inr (1, [.ref (b + 31), .int (nI 7), .int (nI 0), .null, .ref (b + 29), .int (nI 1), .int 0])) (kCell (W0 b) c0 (1, 6)) := Or.inl (by
  show _ = (Sum.inr (1, [.ref (kg (W0 b) 5 (vN (c0 8 6))), .int (c0 9 6), .int (c0 10 6), va_rf (kRC (W0 b) (c0 11 6)), va_rf (kRT (W0 b) (c0 64 6)), .int (c0 65 6), .int (kG (c0 12 6))]) : va_E)
  rw [show c0 8 6 = nI 6 from by decide +kernel, show c0 9 6 = (nI 7) from by decide +kernel, show c0 10 6 = (nI 0) from by decide +kernel, show c0 11 6 = 0 from by decide +kernel, show c0 64 6 = nI 4 from by decide +kernel, show c0 65 6 = (nI 1) from by decide +kernel, show c0 12 6 = 1 from by decide +kernel]
  rfl)
theorem kc_35 (z : xzs) (b : Nat) : eEq (.inr (1, [.ref (b + 14), .int (nI 7), .int (nI 0), .null, .ref (b + 29), .int (nI 2), .int 0])) (kCell (W0 b) c0 (1, 7)) := Or.inl (by
  show _ = (Sum.inr (1, [.ref (kg (W0 b) 5 (vN (c0 8 7))), .int (c0 9 7), .int (c0 10 7), va_rf (kRC (W0 b) (c0 11 7)), va_rf (kRT (W0 b) (c0 64 7)), .int (c0 65 7), .int (kG (c0 12 7))]) : va_E)
  rw [show c0 8 7 = nI 8 from by decide +kernel, show c0 9 7 = (nI 7) from by decide +kernel, show c0 10 7 = (nI 0) from by decide +kernel, show c0 11 7 = 0 from by decide +kernel, show c0 64 7 = nI 4 from by decide +kernel, show c0 65 7 = (nI 2) from by decide +kernel, show c0 12 7 = 1 from by decide +kernel]
  rfl)
theorem kc_36 (z : xzs) (b : Nat) : eEq (.inr (1, [.ref (b + 16), .int (nI 7), .int (nI 0), .null, .ref (b + 29), .int (nI 3), .int 0])) (kCell (W0 b) c0 (1, 8)) := Or.inl (by
  show _ = (Sum.inr (1, [.ref (kg (W0 b) 5 (vN (c0 8 8))), .int (c0 9 8), .int (c0 10 8), va_rf (kRC (W0 b) (c0 11 8)), va_rf (kRT (W0 b) (c0 64 8)), .int (c0 65 8), .int (kG (c0 12 8))]) : va_E)
  rw [show c0 8 8 = nI 9 from by decide +kernel, show c0 9 8 = (nI 7) from by decide +kernel, show c0 10 8 = (nI 0) from by decide +kernel, show c0 11 8 = 0 from by decide +kernel, show c0 64 8 = nI 4 from by decide +kernel, show c0 65 8 = (nI 3) from by decide +kernel, show c0 12 8 = 1 from by decide +kernel]
  rfl)
theorem kc_37 (z : xzs) (b : Nat) : eEq (.inr (2, [.int (nI 3), .ref (b + 38), .int 0, .int 0, .int 0, .int 0, .int 0, .int 1, .int (nI 2 + 1), .int 0, .null, .int 0, .int 0, .null, .null, .int 0, .int 0, .null, .int 0])) (kCell (W0 b) c0 (2, 3)) := Or.inl (by
  show _ = (Sum.inr (2, [.int (nI 3), .ref (kg (W0 b) 5 (1 + 3)), .int (c0 15 3), .int (c0 16 3), .int (c0 17 3), .int (c0 18 3), .int (c0 19 3), .int (c0 20 3), .int (c0 21 3), .int (c0 23 3), va_rf (kRT (W0 b) (c0 52 3)), .int (c0 24 3), .int (c0 25 3), va_rf (kRC (W0 b) (c0 26 3)), va_rf (kRT (W0 b) (c0 56 3)), .int (c0 27 3), .int (c0 28 3), va_rf (kRL (W0 b) (c0 29 3)), .int (c0 30 3)]) : va_E)
  rw [show c0 15 3 = 0 from by decide +kernel, show c0 16 3 = 0 from by decide +kernel, show c0 17 3 = 0 from by decide +kernel, show c0 18 3 = 0 from by decide +kernel, show c0 19 3 = 0 from by decide +kernel, show c0 20 3 = 1 from by decide +kernel, show c0 21 3 = (nI 2 + 1) from by decide +kernel, show c0 23 3 = 0 from by decide +kernel, show c0 52 3 = 0 from by decide +kernel, show c0 24 3 = 0 from by decide +kernel, show c0 25 3 = 0 from by decide +kernel, show c0 26 3 = 0 from by decide +kernel, show c0 56 3 = 0 from by decide +kernel, show c0 27 3 = 0 from by decide +kernel, show c0 28 3 = 0 from by decide +kernel, show c0 29 3 = 0 from by decide +kernel, show c0 30 3 = 0 from by decide +kernel]
  rfl)
theorem kc_38 (z : xzs) (b : Nat) : eEq (.inr (5, [.int (nI 3), .int (nI 0), .int (nI 0), .ref (b + 39), .int 0, .int 0, .int 0, .int 0, .int 0, .int 0, .null])) (kCell (W0 b) c0 (5, 4)) := Or.inl (by
  show _ = (Sum.inr (5, [.int (c0 1 4), .int (c0 2 4), .int (kSrv 4), .ref (kg (W0 b) 6 4), .int (kNum 4), .int (c0 3 4), .int (c0 4 4), .int (c0 61 4), .int (c0 62 4), .int (kG (c0 6 4)), va_rf (kRO (W0 b) (c0 5 4))]) : va_E)
  rw [show c0 1 4 = (nI 3) from by decide +kernel, show c0 2 4 = (nI 0) from by decide +kernel, show c0 3 4 = 0 from by decide +kernel, show c0 4 4 = 0 from by decide +kernel, show c0 61 4 = 0 from by decide +kernel, show c0 62 4 = 0 from by decide +kernel, show c0 6 4 = 1 from by decide +kernel, show c0 5 4 = 0 from by decide +kernel]
  rfl)
theorem kc_39 (z : xzs) (b : Nat) : eEq (kQ 8 (va_up (va_up (va_up (va_up (fun _ => none) 0 (some (b + 42))) 1 (some (b + 43))) 2 (some (b + 44))) 3 (some (b + 46))) 2) (kCell (W0 b) c0 (6, 4)) := Or.inr ⟨2, 8, _, _, rfl, by
  show kQ (if c0 1 4 = nI 3 then 8 else 0) _ 2 = _
  rw [if_pos (show c0 1 4 = nI 3 by decide +kernel)], fun i hi => by
    rcases (by omega : i = 0 ∨ i = 1 ∨ i = 2 ∨ i = 3 ∨ i = 4 ∨ i = 5 ∨ i = 6 ∨ i = 7) with rfl | rfl | rfl | rfl | rfl | rfl | rfl | rfl
    · show _ = kRC (W0 b) (c0 14 32)
      rw [show c0 14 32 = nI 9 from by decide +kernel]
      rfl
    · show _ = kRC (W0 b) (c0 14 33)
      rw [show c0 14 33 = nI 10 from by decide +kernel]
      rfl
    · show _ = kRC (W0 b) (c0 14 34)
      rw [show c0 14 34 = nI 11 from by decide +kernel]
      rfl
    · show _ = kRC (W0 b) (c0 14 35)
      rw [show c0 14 35 = nI 12 from by decide +kernel]
      rfl
    · show _ = kRC (W0 b) (c0 14 36)
      rw [show c0 14 36 = 0 from by decide +kernel]
      rfl
    · show _ = kRC (W0 b) (c0 14 37)
      rw [show c0 14 37 = 0 from by decide +kernel]
      rfl
    · show _ = kRC (W0 b) (c0 14 38)
      rw [show c0 14 38 = 0 from by decide +kernel]
      rfl
    · show _ = kRC (W0 b) (c0 14 39)
      rw [show c0 14 39 = 0 from by decide +kernel]
      rfl⟩
theorem kc_40 (z : xzs) (b : Nat) : eEq (.inr (5, [.int (nI 0), .int (nI 16), .int (nI 0), .ref (b + 41), .int 0, .int 0, .int 0, .int (0 + 1), .int 0, .int 0, .null])) (kCell (W0 b) c0 (5, 7)) := Or.inl (by
  show _ = (Sum.inr (5, [.int (c0 1 7), .int (c0 2 7), .int (kSrv 7), .ref (kg (W0 b) 6 7), .int (kNum 7), .int (c0 3 7), .int (c0 4 7), .int (c0 61 7), .int (c0 62 7), .int (kG (c0 6 7)), va_rf (kRO (W0 b) (c0 5 7))]) : va_E)
  rw [show c0 1 7 = (nI 0) from by decide +kernel, show c0 2 7 = (nI 16) from by decide +kernel, show c0 3 7 = 0 from by decide +kernel, show c0 4 7 = 0 from by decide +kernel, show c0 61 7 = (0 + 1) from by decide +kernel, show c0 62 7 = 0 from by decide +kernel, show c0 6 7 = 1 from by decide +kernel, show c0 5 7 = 0 from by decide +kernel]
  rfl)
theorem kc_41 (z : xzs) (b : Nat) : eEq (kQ 0 (fun _ => none) 2) (kCell (W0 b) c0 (6, 7)) := Or.inr ⟨2, 0, _, _, rfl, by
  show kQ (if c0 1 7 = nI 3 then 8 else 0) _ 2 = _
  rw [if_neg (show ¬ c0 1 7 = nI 3 by decide +kernel)], fun i hi => absurd hi (Nat.not_lt_zero _)⟩
theorem kc_42 (z : xzs) (b : Nat) : eEq (.inr (1, [.ref (b + 12), .int (nI 2), .int (nI 3), .null, .ref (b + 38), .int (nI 0), .int 0])) (kCell (W0 b) c0 (1, 9)) := Or.inl (by
  show _ = (Sum.inr (1, [.ref (kg (W0 b) 5 (vN (c0 8 9))), .int (c0 9 9), .int (c0 10 9), va_rf (kRC (W0 b) (c0 11 9)), va_rf (kRT (W0 b) (c0 64 9)), .int (c0 65 9), .int (kG (c0 12 9))]) : va_E)
  rw [show c0 8 9 = nI 0 from by decide +kernel, show c0 9 9 = (nI 2) from by decide +kernel, show c0 10 9 = (nI 3) from by decide +kernel, show c0 11 9 = 0 from by decide +kernel, show c0 64 9 = nI 5 from by decide +kernel, show c0 65 9 = (nI 0) from by decide +kernel, show c0 12 9 = 1 from by decide +kernel]
  rfl)
theorem kc_43 (z : xzs) (b : Nat) : eEq (.inr (1, [.ref (b + 40), .int (nI 7), .int (nI 0), .null, .ref (b + 38), .int (nI 1), .int 0])) (kCell (W0 b) c0 (1, 10)) := Or.inl (by
  show _ = (Sum.inr (1, [.ref (kg (W0 b) 5 (vN (c0 8 10))), .int (c0 9 10), .int (c0 10 10), va_rf (kRC (W0 b) (c0 11 10)), va_rf (kRT (W0 b) (c0 64 10)), .int (c0 65 10), .int (kG (c0 12 10))]) : va_E)
  rw [show c0 8 10 = nI 7 from by decide +kernel, show c0 9 10 = (nI 7) from by decide +kernel, show c0 10 10 = (nI 0) from by decide +kernel, show c0 11 10 = 0 from by decide +kernel, show c0 64 10 = nI 5 from by decide +kernel, show c0 65 10 = (nI 1) from by decide +kernel, show c0 12 10 = 1 from by decide +kernel]
  rfl)
theorem kc_44 (z : xzs) (b : Nat) : eEq (.inr (1, [.ref (b + 14), .int (nI 7), .int (nI 0), .null, .ref (b + 38), .int (nI 2), .int 0])) (kCell (W0 b) c0 (1, 11)) := Or.inl (by
  show _ = (Sum.inr (1, [.ref (kg (W0 b) 5 (vN (c0 8 11))), .int (c0 9 11), .int (c0 10 11), va_rf (kRC (W0 b) (c0 11 11)), va_rf (kRT (W0 b) (c0 64 11)), .int (c0 65 11), .int (kG (c0 12 11))]) : va_E)
  rw [show c0 8 11 = nI 8 from by decide +kernel, show c0 9 11 = (nI 7) from by decide +kernel, show c0 10 11 = (nI 0) from by decide +kernel, show c0 11 11 = 0 from by decide +kernel, show c0 64 11 = nI 5 from by decide +kernel, show c0 65 11 = (nI 2) from by decide +kernel, show c0 12 11 = 1 from by decide +kernel]
  rfl)
theorem kc_45 (z : xzs) (b : Nat) : eEq (xobs (va_up (va_up (va_cpy (va_up (va_up (va_up (va_up (va_up (va_up (va_up (va_up (va_up (va_up (fun _ => none) 0 (some (b + 23))) 1 (some (b + 25))) 2 (some (b + 26))) 3 (some (b + 27))) 4 (some (b + 33))) 5 (some (b + 34))) 6 (some (b + 35))) 7 (some (b + 36))) 8 (some (b + 42))) 9 (some (b + 43))) (fun _ => none) 0 0 10) 10 (some (b + 44))) 11 (some (b + 46))) 15) (kCell (W0 b) c0 (0, 3)) := Or.inr ⟨4, 15, _, _, rfl, rfl, fun i hi => by
    rcases (by omega : i = 0 ∨ i = 1 ∨ i = 2 ∨ i = 3 ∨ i = 4 ∨ i = 5 ∨ i = 6 ∨ i = 7 ∨ i = 8 ∨ i = 9 ∨ i = 10 ∨ i = 11 ∨ i = 12 ∨ i = 13 ∨ i = 14) with rfl | rfl | rfl | rfl | rfl | rfl | rfl | rfl | rfl | rfl | rfl | rfl | rfl | rfl | rfl
    · show _ = kRC (W0 b) (c0 70 0)
      rw [show c0 70 0 = nI 1 from by decide +kernel]
      rfl
    · show _ = kRC (W0 b) (c0 70 1)
      rw [show c0 70 1 = nI 2 from by decide +kernel]
      rfl
    · show _ = kRC (W0 b) (c0 70 2)
      rw [show c0 70 2 = nI 3 from by decide +kernel]
      rfl
    · show _ = kRC (W0 b) (c0 70 3)
      rw [show c0 70 3 = nI 4 from by decide +kernel]
      rfl
    · show _ = kRC (W0 b) (c0 70 4)
      rw [show c0 70 4 = nI 5 from by decide +kernel]
      rfl
    · show _ = kRC (W0 b) (c0 70 5)
      rw [show c0 70 5 = nI 6 from by decide +kernel]
      rfl
    · show _ = kRC (W0 b) (c0 70 6)
      rw [show c0 70 6 = nI 7 from by decide +kernel]
      rfl
    · show _ = kRC (W0 b) (c0 70 7)
      rw [show c0 70 7 = nI 8 from by decide +kernel]
      rfl
    · show _ = kRC (W0 b) (c0 70 8)
      rw [show c0 70 8 = nI 9 from by decide +kernel]
      rfl
    · show _ = kRC (W0 b) (c0 70 9)
      rw [show c0 70 9 = nI 10 from by decide +kernel]
      rfl
    · show _ = kRC (W0 b) (c0 70 10)
      rw [show c0 70 10 = nI 11 from by decide +kernel]
      rfl
    · show _ = kRC (W0 b) (c0 70 11)
      rw [show c0 70 11 = nI 12 from by decide +kernel]
      rfl
    · show _ = kRC (W0 b) (c0 70 12)
      rw [show c0 70 12 = 0 from by decide +kernel]
      rfl
    · show _ = kRC (W0 b) (c0 70 13)
      rw [show c0 70 13 = 0 from by decide +kernel]
      rfl
    · show _ = kRC (W0 b) (c0 70 14)
      rw [show c0 70 14 = 0 from by decide +kernel]
      rfl⟩
theorem kc_46 (z : xzs) (b : Nat) : eEq (.inr (1, [.ref (b + 16), .int (nI 7), .int (nI 0), .null, .ref (b + 38), .int (nI 3), .int 0])) (kCell (W0 b) c0 (1, 12)) := Or.inl (by
  show _ = (Sum.inr (1, [.ref (kg (W0 b) 5 (vN (c0 8 12))), .int (c0 9 12), .int (c0 10 12), va_rf (kRC (W0 b) (c0 11 12)), va_rf (kRT (W0 b) (c0 64 12)), .int (c0 65 12), .int (kG (c0 12 12))]) : va_E)
  rw [show c0 8 12 = nI 9 from by decide +kernel, show c0 9 12 = (nI 7) from by decide +kernel, show c0 10 12 = (nI 0) from by decide +kernel, show c0 11 12 = 0 from by decide +kernel, show c0 64 12 = nI 5 from by decide +kernel, show c0 65 12 = (nI 3) from by decide +kernel, show c0 12 12 = 1 from by decide +kernel]
  rfl)
def eP (z : xzs) (b : Nat) : List va_E := [kCell (W0 b) c0 (0, 0), kCell (W0 b) c0 (0, 1), kCell (W0 b) c0 (0, 2), kCell (W0 b) c0 (5, 1), kCell (W0 b) c0 (6, 1), kCell (W0 b) c0 (0, 4), kCell (W0 b) c0 (0, 5), kCell (W0 b) c0 (0, 6), kCell (W0 b) c0 (0, 7), kCell (W0 b) c0 (0, 8), kCell (W0 b) c0 (0, 9), kCell (W0 b) c0 (0, 10), kCell (W0 b) c0 (5, 0), kCell (W0 b) c0 (6, 0), kCell (W0 b) c0 (5, 8), kCell (W0 b) c0 (6, 8), kCell (W0 b) c0 (5, 9), kCell (W0 b) c0 (6, 9), kCell (W0 b) c0 (2, 1), kCell (W0 b) c0 (5, 2), kCell (W0 b) c0 (6, 2), kCell (W0 b) c0 (5, 5), kCell (W0 b) c0 (6, 5), kCell (W0 b) c0 (1, 1), xobs (va_up (va_up (va_up (va_up (va_up (va_up (va_up (va_up (va_up (va_up (fun _ => none) 0 (some (b + 23))) 1 (some (b + 25))) 2 (some (b + 26))) 3 (some (b + 27))) 4 (some (b + 33))) 5 (some (b + 34))) 6 (some (b + 35))) 7 (some (b + 36))) 8 (some (b + 42))) 9 (some (b + 43))) 10, kCell (W0 b) c0 (1, 2), kCell (W0 b) c0 (1, 3), kCell (W0 b) c0 (1, 4), kCell (W0 b) c0 (2, 2), kCell (W0 b) c0 (5, 3), kCell (W0 b) c0 (6, 3), kCell (W0 b) c0 (5, 6), kCell (W0 b) c0 (6, 6), kCell (W0 b) c0 (1, 5), kCell (W0 b) c0 (1, 6), kCell (W0 b) c0 (1, 7), kCell (W0 b) c0 (1, 8), kCell (W0 b) c0 (2, 3), kCell (W0 b) c0 (5, 4), kCell (W0 b) c0 (6, 4), kCell (W0 b) c0 (5, 7), kCell (W0 b) c0 (6, 7), kCell (W0 b) c0 (1, 9), kCell (W0 b) c0 (1, 10), kCell (W0 b) c0 (1, 11), kCell (W0 b) c0 (0, 3), kCell (W0 b) c0 (1, 12)]
theorem eP_eq (z : xzs) (b i : Nat) (hi : i < 47) : ∃ e e', (eK3 z b)[i]? = some e ∧ (eP z b)[i]? = some e' ∧ eEq e e' := by
  rcases (by omega : i = 0 ∨ i = 1 ∨ i = 2 ∨ i = 3 ∨ i = 4 ∨ i = 5 ∨ i = 6 ∨ i = 7 ∨ i = 8 ∨ i = 9 ∨ i = 10 ∨ i = 11 ∨ i = 12 ∨ i = 13 ∨ i = 14 ∨ i = 15 ∨ i = 16 ∨ i = 17 ∨ i = 18 ∨ i = 19 ∨ i = 20 ∨ i = 21 ∨ i = 22 ∨ i = 23 ∨ i = 24 ∨ i = 25 ∨ i = 26 ∨ i = 27 ∨ i = 28 ∨ i = 29 ∨ i = 30 ∨ i = 31 ∨ i = 32 ∨ i = 33 ∨ i = 34 ∨ i = 35 ∨ i = 36 ∨ i = 37 ∨ i = 38 ∨ i = 39 ∨ i = 40 ∨ i = 41 ∨ i = 42 ∨ i = 43 ∨ i = 44 ∨ i = 45 ∨ i = 46) with rfl | rfl | rfl | rfl | rfl | rfl | rfl | rfl | rfl | rfl | rfl | rfl | rfl | rfl | rfl | rfl | rfl | rfl | rfl | rfl | rfl | rfl | rfl | rfl | rfl | rfl | rfl | rfl | rfl | rfl | rfl | rfl | rfl | rfl | rfl | rfl | rfl | rfl | rfl | rfl | rfl | rfl | rfl | rfl | rfl | rfl | rfl
  · exact ⟨_, _, rfl, rfl, kc_0 z b⟩
  · exact ⟨_, _, rfl, rfl, kc_1 z b⟩
  · exact ⟨_, _, rfl, rfl, kc_2 z b⟩
  · exact ⟨_, _, rfl, rfl, kc_3 z b⟩
  · exact ⟨_, _, rfl, rfl, kc_4 z b⟩
  · exact ⟨_, _, rfl, rfl, kc_5 z b⟩
  · exact ⟨_, _, rfl, rfl, kc_6 z b⟩
  · exact ⟨_, _, rfl, rfl, kc_7 z b⟩
  · exact ⟨_, _, rfl, rfl, kc_8 z b⟩
  · exact ⟨_, _, rfl, rfl, kc_9 z b⟩
  · exact ⟨_, _, rfl, rfl, kc_10 z b⟩
  · exact ⟨_, _, rfl, rfl, kc_11 z b⟩
  · exact ⟨_, _, rfl, rfl, kc_12 z b⟩
  · exact ⟨_, _, rfl, rfl, kc_13 z b⟩
  · exact ⟨_, _, rfl, rfl, kc_14 z b⟩
  · exact ⟨_, _, rfl, rfl, kc_15 z b⟩
  · exact ⟨_, _, rfl, rfl, kc_16 z b⟩
  · exact ⟨_, _, rfl, rfl, kc_17 z b⟩
  · exact ⟨_, _, rfl, rfl, kc_18 z b⟩
  · exact ⟨_, _, rfl, rfl, kc_19 z b⟩
  · exact ⟨_, _, rfl, rfl, kc_20 z b⟩
  · exact ⟨_, _, rfl, rfl, kc_21 z b⟩
  · exact ⟨_, _, rfl, rfl, kc_22 z b⟩
  · exact ⟨_, _, rfl, rfl, kc_23 z b⟩
  · exact ⟨_, _, rfl, rfl, Or.inl rfl⟩
  · exact ⟨_, _, rfl, rfl, kc_25 z b⟩
  · exact ⟨_, _, rfl, rfl, kc_26 z b⟩
  · exact ⟨_, _, rfl, rfl, kc_27 z b⟩
  · exact ⟨_, _, rfl, rfl, kc_28 z b⟩
  · exact ⟨_, _, rfl, rfl, kc_29 z b⟩
  · exact ⟨_, _, rfl, rfl, kc_30 z b⟩
  · exact ⟨_, _, rfl, rfl, kc_31 z b⟩
  · exact ⟨_, _, rfl, rfl, kc_32 z b⟩
  · exact ⟨_, _, rfl, rfl, kc_33 z b⟩
  · exact ⟨_, _, rfl, rfl, kc_34 z b⟩
  · exact ⟨_, _, rfl, rfl, kc_35 z b⟩
  · exact ⟨_, _, rfl, rfl, kc_36 z b⟩
  · exact ⟨_, _, rfl, rfl, kc_37 z b⟩
  · exact ⟨_, _, rfl, rfl, kc_38 z b⟩
  · exact ⟨_, _, rfl, rfl, kc_39 z b⟩
  · exact ⟨_, _, rfl, rfl, kc_40 z b⟩
  · exact ⟨_, _, rfl, rfl, kc_41 z b⟩
  · exact ⟨_, _, rfl, rfl, kc_42 z b⟩
  · exact ⟨_, _, rfl, rfl, kc_43 z b⟩
  · exact ⟨_, _, rfl, rfl, kc_44 z b⟩
  · exact ⟨_, _, rfl, rfl, kc_45 z b⟩
  · exact ⟨_, _, rfl, rfl, kc_46 z b⟩
theorem eP_at (z : xzs) (b i : Nat) (d : Nat × Nat) (h : idxA idxL i = some d) : (eP z b)[i]? = some (kCell (W0 b) c0 d) := by
  have key : ∀ q ∈ idxL, (eP z b)[q.2.2]? = some (kCell (W0 b) c0 (q.1, q.2.1)) := by
    unfold idxL
    refine List.forall_mem_cons.mpr ⟨rfl, ?_⟩
    refine List.forall_mem_cons.mpr ⟨rfl, ?_⟩
    refine List.forall_mem_cons.mpr ⟨rfl, ?_⟩
    refine List.forall_mem_cons.mpr ⟨rfl, ?_⟩
    refine List.forall_mem_cons.mpr ⟨rfl, ?_⟩
    refine List.forall_mem_cons.mpr ⟨rfl, ?_⟩
    refine List.forall_mem_cons.mpr ⟨rfl, ?_⟩
    refine List.forall_mem_cons.mpr ⟨rfl, ?_⟩
    refine List.forall_mem_cons.mpr ⟨rfl, ?_⟩
    refine List.forall_mem_cons.mpr ⟨rfl, ?_⟩
    refine List.forall_mem_cons.mpr ⟨rfl, ?_⟩
    refine List.forall_mem_cons.mpr ⟨rfl, ?_⟩
    refine List.forall_mem_cons.mpr ⟨rfl, ?_⟩
    refine List.forall_mem_cons.mpr ⟨rfl, ?_⟩
    refine List.forall_mem_cons.mpr ⟨rfl, ?_⟩
    refine List.forall_mem_cons.mpr ⟨rfl, ?_⟩
    refine List.forall_mem_cons.mpr ⟨rfl, ?_⟩
    refine List.forall_mem_cons.mpr ⟨rfl, ?_⟩
    refine List.forall_mem_cons.mpr ⟨rfl, ?_⟩
    refine List.forall_mem_cons.mpr ⟨rfl, ?_⟩
    refine List.forall_mem_cons.mpr ⟨rfl, ?_⟩
    refine List.forall_mem_cons.mpr ⟨rfl, ?_⟩
    refine List.forall_mem_cons.mpr ⟨rfl, ?_⟩
    refine List.forall_mem_cons.mpr ⟨rfl, ?_⟩
    refine List.forall_mem_cons.mpr ⟨rfl, ?_⟩
    refine List.forall_mem_cons.mpr ⟨rfl, ?_⟩
    refine List.forall_mem_cons.mpr ⟨rfl, ?_⟩
    refine List.forall_mem_cons.mpr ⟨rfl, ?_⟩
    refine List.forall_mem_cons.mpr ⟨rfl, ?_⟩
    refine List.forall_mem_cons.mpr ⟨rfl, ?_⟩
    refine List.forall_mem_cons.mpr ⟨rfl, ?_⟩
    refine List.forall_mem_cons.mpr ⟨rfl, ?_⟩
    refine List.forall_mem_cons.mpr ⟨rfl, ?_⟩
    refine List.forall_mem_cons.mpr ⟨rfl, ?_⟩
    refine List.forall_mem_cons.mpr ⟨rfl, ?_⟩
    refine List.forall_mem_cons.mpr ⟨rfl, ?_⟩
    refine List.forall_mem_cons.mpr ⟨rfl, ?_⟩
    refine List.forall_mem_cons.mpr ⟨rfl, ?_⟩
    refine List.forall_mem_cons.mpr ⟨rfl, ?_⟩
    refine List.forall_mem_cons.mpr ⟨rfl, ?_⟩
    refine List.forall_mem_cons.mpr ⟨rfl, ?_⟩
    refine List.forall_mem_cons.mpr ⟨rfl, ?_⟩
    refine List.forall_mem_cons.mpr ⟨rfl, ?_⟩
    refine List.forall_mem_cons.mpr ⟨rfl, ?_⟩
    refine List.forall_mem_cons.mpr ⟨rfl, ?_⟩
    refine List.forall_mem_cons.mpr ⟨rfl, ?_⟩
    exact fun q hq => absurd hq List.not_mem_nil
  exact key _ (idxA_mem h)
