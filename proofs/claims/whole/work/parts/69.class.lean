/-! The class: the list; new capabilities. -/
/-- how a call changes where things live: cells and slots it makes, and that what is not its own stays -/
def kFr (n k : Nat) (W : kW) (h : xH) (W' : kW) (h' : xH) : Prop := kOk W' h' ∧ h'.1 = h.1 ∧ xn h ≤ xn h' ∧ xn h' ≤ xn h + n ∧ h'.2.1 ≤ h.2.1 + k ∧ ∀ a, a < xn h → kA W a = none → kA W' a = none ∧ xat h' a = xat h a
theorem kFr.rf {W : kW} {h : xH} (ok : kOk W h) : kFr 0 0 W h W h := ⟨ok, rfl, Nat.le_refl _, Nat.le_refl _, Nat.le_refl _, fun a _ e => ⟨e, rfl⟩⟩
theorem kFr.tr {n k n' k' : Nat} {W W' W2 : kW} {h h' h2 : xH} (p : kFr n k W h W' h') (q : kFr n' k' W' h' W2 h2) : kFr (n + n') (k + k') W h W2 h2 := by
  obtain ⟨p1, p2, p3, p4, p5, p6⟩ := p
  obtain ⟨q1, q2, q3, q4, q5, q6⟩ := q
  refine ⟨q1, q2.trans p2, Nat.le_trans p3 q3, by omega, by omega, fun a ha e => ?_⟩
  obtain ⟨r1, r2⟩ := p6 a ha e
  obtain ⟨r3, r4⟩ := q6 a (by omega) r1
  exact ⟨r3, r4.trans r2⟩
theorem kFr.mono {n k n' k' : Nat} {W W' : kW} {h h' : xH} (p : kFr n k W h W' h') (h1 : n ≤ n') (h2 : k ≤ k') : kFr n' k' W h W' h' := by
  obtain ⟨p1, p2, p3, p4, p5, p6⟩ := p
  exact ⟨p1, p2, p3, by omega, by omega, p6⟩
theorem kFr.push {W : kW} {h : xH} (ok : kOk W h) (k : Nat) (e : va_E) : kFr 1 k W h W (xpush h k e) := by
  refine ⟨kOk_push ok k e, rfl, by rw [xn_push]; omega, by rw [xn_push]; omega, Nat.le_refl _, fun a ha q => ⟨q, ?_⟩⟩
  rw [xat_push, if_neg (by omega)]
section KF
variable {z : xzs} {W : kW} {h : xH} {c : mS}
theorem ke_lst {W : kW} {c : mS} {n : Nat} (v : Int32) : ∀ d, d ≠ (0, 3) → kCell W (sS c 70 n v) d = kCell W c d := by
  intro d hd
  obtain ⟨f, i⟩ := d
  unfold kCell
  split
  · rename_i hq
    have hi : i ≠ 3 := fun w => hd (by rw [w, show f = 0 from hq])
    unfold kc0; split <;> first | (rename_i w; exact absurd w hi) | simp only [sS_app, sS_fn, Nat.reduceEqDiff, false_and, ↓reduceIte, ne_eq, not_false_eq_true]
  · simp only [kc1, sS_app, Nat.reduceEqDiff, false_and, ↓reduceIte]
  · simp only [kc2, sS_app, Nat.reduceEqDiff, false_and, ↓reduceIte]
  · simp only [kc5, sS_app, Nat.reduceEqDiff, false_and, ↓reduceIte]
  · simp only [kc6, sS_app, Nat.reduceEqDiff, false_and, ↓reduceIte]
  · rfl
theorem ke_siz {W : kW} {c : mS} (m s : Int32) : ∀ d, d ≠ (0, 2) → kCell W (sS (sS c 72 0 m) 71 0 s) d = kCell W c d := by
  intro d hd
  obtain ⟨f, i⟩ := d
  unfold kCell
  split
  · rename_i hq
    have hi : i ≠ 2 := fun w => hd (by rw [w, show f = 0 from hq])
    unfold kc0; split <;> first | (rename_i w; exact absurd w hi) | simp only [sS_app, sS_fn, Nat.reduceEqDiff, false_and, ↓reduceIte, ne_eq, not_false_eq_true]
  · simp only [kc1, sS_app, Nat.reduceEqDiff, false_and, ↓reduceIte]
  · simp only [kc2, sS_app, Nat.reduceEqDiff, false_and, ↓reduceIte]
  · simp only [kc5, sS_app, Nat.reduceEqDiff, false_and, ↓reduceIte]
  · simp only [kc6, sS_app, Nat.reduceEqDiff, false_and, ↓reduceIte]
  · rfl
theorem k_lset (ok : kOk W h) (m s : Int32) : xlset (kPut W h c) (kg W 0 2) (kg W 0 3) m s = kPut W h (sS (sS c 72 0 m) 71 0 s) := by
  unfold xlset
  rw [show (Sum.inr (7, [.ref (kg W 0 3), .int m, .int s]) : va_E) = kCell W (sS (sS c 72 0 m) 71 0 s) (0, 2) from by simp only [kCell, kc0, sS_app, Nat.reduceEqDiff, false_and, and_self, ↓reduceIte], kPut_set ok (kDom0 (by decide)) (ke_siz m s)]
theorem kr_lst (ok : kOk W h) : xlist (kPut W h c) (kg W 0 2) = some (kg W 0 3, c 72 0, c 71 0) := by
  have q := xat_kPut (c := c) ok (kDom0 (W := W) (j := 2) (by decide))
  unfold xlist
  have q' : xat (kPut W h c) (kg W 0 2) = some (.inr (7, [.ref (kg W 0 3), .int (c 72 0), .int (c 71 0)])) := q
  rw [rdR_of (r := some (kg W 0 3)) q rfl, rdI_of q (k := 1) (x := c 72 0) rfl, rdI_of q (k := 2) (x := c 71 0) rfl]
  exact if_pos (xlen3_of q')
theorem t_A_size (ok : kOk W h) : f_A_size z [.ref (kg W 0 2)] (kPut W h c) = some (.inl (some (.int (c 71 0))), kPut W h c) := by
  show (rdI (kPut W h c) (kg W 0 2) 7 2).bind _ = _
  rw [rdI_of (xat_kPut ok (kDom0 (W := W) (j := 2) (by decide))) (k := 2) (x := c 71 0) rfl]
  rfl
/-- the list's room, and what stands in it -/
def kLs (W : kW) (c : mS) (n : Nat) : Prop := c 71 0 = nI n ∧ n ≤ kcap W ∧ 2 ≤ kcap W ∧ kcap W ≤ 40000 ∧ (∀ i, i < n → isN (c 70 i) (kC W + 1) ∧ 1 ≤ vN (c 70 i)) ∧ ∀ i, n ≤ i → c 70 i = 0
theorem t_A_get (ok : kOk W h) {n i : Nat} (hl : kLs W c n) (hi : i < n) : f_A_get z [.ref (kg W 0 2), .int (nI i)] (kPut W h c) = some (.inl (some (va_rf (kRC W (c 70 i)))), kPut W h c) := by
  obtain ⟨l1, l2, l3, l4, l5, l6⟩ := hl
  have q := xat_kPut (c := c) ok (kDom0 (W := W) (j := 2) (by decide))
  show (rdI (kPut W h c) (kg W 0 2) 7 2).bind _ = _
  rw [rdI_of q (k := 2) (x := c 71 0) rfl, Option.bind_some, l1, if_neg (by rintro (w | w); exact nI_pos (by omega) w; exact nI_ge hi (by omega) w), rdR_of (r := some (kg W 0 3)) q rfl]
  simp only [Option.bind_some, rdQ_of (j := i) (xat_kPut (c := c) ok (kDom0 (W := W) (j := 3) (by decide))) rfl (show i < kcap W by omega) (by omega)]
def kLadd (c : mS) (n j : Nat) : mS := sS (sS (sS c 70 n (nI j)) 72 0 (c 72 0 + 1)) 71 0 (c 71 0 + 1)
/-- the list's array lies elsewhere -/
def wD (W : kW) (a k : Nat) : kW := (fun x => if x = a then some (0, 3) else if x = kg W 0 3 then none else kA W x, fun f j => if f = 0 ∧ j = 3 then a else kg W f j, k, kT W, kC W)
theorem wD_g {a k f j : Nat} : kg (wD W a k) f j = if f = 0 ∧ j = 3 then a else kg W f j := rfl
theorem wD_A {a k x : Nat} : kA (wD W a k) x = if x = a then some (0, 3) else if x = kg W 0 3 then none else kA W x := rfl
theorem wD_cell {a k : Nat} {c : mS} : ∀ d, d ≠ (0, 2) → d ≠ (0, 3) → kCell (wD W a k) c d = kCell W c d := by
  intro d h2 h3
  obtain ⟨f, i⟩ := d
  have g1 : ∀ j, kg (wD W a k) 1 j = kg W 1 j := fun j => by rw [wD_g, if_neg (by omega)]
  have g2 : ∀ j, kg (wD W a k) 2 j = kg W 2 j := fun j => by rw [wD_g, if_neg (by omega)]
  have g5 : ∀ j, kg (wD W a k) 5 j = kg W 5 j := fun j => by rw [wD_g, if_neg (by omega)]
  have g6 : ∀ j, kg (wD W a k) 6 j = kg W 6 j := fun j => by rw [wD_g, if_neg (by omega)]
  have g0 : ∀ j, j ≠ 3 → kg (wD W a k) 0 j = kg W 0 j := fun j hj => by rw [wD_g, if_neg (by omega)]
  have rc : ∀ x, kRC (wD W a k) x = kRC W x := fun x => by unfold kRC; rw [g1]
  have rt : ∀ x, kRT (wD W a k) x = kRT W x := fun x => by unfold kRT; rw [g5]
  have ro : ∀ x, kRO (wD W a k) x = kRO W x := fun x => by unfold kRO; rw [g5]
  have rl : ∀ x, kRL (wD W a k) x = kRL W x := fun x => by unfold kRL; rw [g2]
  unfold kCell
  split
  · rename_i hq
    have hq : f = 0 := hq
    subst hq
    show kc0 (wD W a k) c i = kc0 W c i
    unfold kc0
    split
    · simp only [g0 1 (by decide), g0 2 (by decide), g0 4 (by decide), g5]
    · simp only [g2]
    · exact absurd rfl h2
    · exact absurd rfl h3
    · simp only [g0 5 (by decide), g0 7 (by decide), g0 8 (by decide), g0 9 (by decide), g0 10 (by decide)]
    · simp only [g0 6 (by decide)]
    · rfl
    · rfl
    · rfl
    · rfl
    · rfl
  · simp only [kc1, g5, rc, rt]
  · simp only [kc2, g5, rc, rt, rl]
  · simp only [kc5, g6, ro]
  · simp only [kc6, rc]
  · rfl
end KF
