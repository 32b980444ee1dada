/-! THE CLASS'S HEAP as a function of a state. A state has the reference's numbers of fields where class and reference keep alike things (21 place, 23 since, 31 stamps, 24 sentWord, 25 sentBadge, 26 sent, 27 into, 28 calls, 29 asker, 30 askersCall, 35 disk, 36 blocksRead, 37 blocksWritten, 6 and 12: not gone), and beside them: 52 waitsAt (0 none, object + 1), 56 intoTable, 61 holders, 62 madeOfIt, 64 table, 65 slot, 68 stillThere, 69 made, 70 the list, 71 its size, 72 its changes, 73 taken, 74 owners, 75 files, 76 buffer. 'kW': who lives where; its addresses; the list's room; how many objects, capabilities. Sorts: 0 single cells (0 the kernel, 1 clients, 2 list, 3 its array, 4 file server, 5 driver, 6 disk, 7 taken, 8 owners, 9 files, 10 buffer), 1 capabilities, 2 clients, 5 objects, 6 their slots. -/
abbrev kW : Type := (Nat → Option (Nat × Nat)) × (Nat → Nat → Nat) × Nat × Nat × Nat
abbrev kA (W : kW) : Nat → Option (Nat × Nat) := W.1
abbrev kg (W : kW) : Nat → Nat → Nat := W.2.1
abbrev kcap (W : kW) : Nat := W.2.2.1
abbrev kT (W : kW) : Nat := W.2.2.2.1
abbrev kC (W : kW) : Nat := W.2.2.2.2
def kRT (W : kW) (x : Int32) : Option Nat := if x = 0 then none else some (kg W 5 (vN x - 1))
def kRO (W : kW) (x : Int32) : Option Nat := if x = 0 then none else some (kg W 5 (vN x))
def kRC (W : kW) (x : Int32) : Option Nat := if x = 0 then none else some (kg W 1 (vN x))
def kRL (W : kW) (x : Int32) : Option Nat := if x = 0 then none else some (kg W 2 (vN x))
def kG (x : Int32) : Int32 := if x = 0 then 1 else 0
def kSrv (o : Nat) : Int32 := if o = 0 then 1 else if o = 1 then nI 2 else 0
def kNum (o : Nat) : Int32 := nI (o - 9)
def kQ (n : Nat) (f : Nat → Option Nat) (kd : Nat) : va_E := .inl (kd, n, .inr (.inr (.inr (.inr f))))
def kc1 (W : kW) (c : mS) (j : Nat) : va_E := .inr (1, [.ref (kg W 5 (vN (c 8 j))), .int (c 9 j), .int (c 10 j), va_rf (kRC W (c 11 j)), va_rf (kRT W (c 64 j)), .int (c 65 j), .int (kG (c 12 j))])
def kc2 (W : kW) (c : mS) (j : Nat) : va_E := .inr (2, [.int (nI j), .ref (kg W 5 (1 + j)), .int (c 15 j), .int (c 16 j), .int (c 17 j), .int (c 18 j), .int (c 19 j), .int (c 20 j), .int (c 21 j), .int (c 23 j), va_rf (kRT W (c 52 j)), .int (c 24 j), .int (c 25 j), va_rf (kRC W (c 26 j)), va_rf (kRT W (c 56 j)), .int (c 27 j), .int (c 28 j), va_rf (kRL W (c 29 j)), .int (c 30 j)])
def kc5 (W : kW) (c : mS) (j : Nat) : va_E := .inr (5, [.int (c 1 j), .int (c 2 j), .int (kSrv j), .ref (kg W 6 j), .int (kNum j), .int (c 3 j), .int (c 4 j), .int (c 61 j), .int (c 62 j), .int (kG (c 6 j)), va_rf (kRO W (c 5 j))])
def kc6 (W : kW) (c : mS) (j : Nat) : va_E := kQ (if c 1 j = nI 3 then 8 else 0) (fun i => if i < 8 then kRC W (c 14 (8 * j + i)) else none) 2
def kc0 (W : kW) (c : mS) (j : Nat) : va_E := match j with
  | 0 => .inr (0, [.ref (kg W 0 1), .ref (kg W 5 1), .ref (kg W 0 4), .int (c 69 0), .int (c 68 0), .int (c 31 0), .ref (kg W 0 2)])
  | 1 => kQ 3 (fun i => some (kg W 2 (i + 1))) 3
  | 2 => .inr (7, [.ref (kg W 0 3), .int (c 72 0), .int (c 71 0)])
  | 3 => kQ (kcap W) (fun i => kRC W (c 70 i)) 4
  | 4 => .inr (4, [.ref (kg W 0 5), .ref (kg W 0 7), .ref (kg W 0 8), .ref (kg W 0 9), .ref (kg W 0 10)])
  | 5 => .inr (3, [.ref (kg W 0 6), .int (c 36 0), .int (c 37 0)])
  | 6 => .inl (0, 48, .inl (c 35))
  | 7 => .inl (1, 6, .inl (c 73))
  | 8 => .inl (0, 6, .inl (c 74))
  | 9 => .inl (0, 6, .inl (c 75))
  | _ => .inl (0, 8, .inl (c 76))
def kCell (W : kW) (c : mS) (d : Nat × Nat) : va_E := match d.1 with
  | 0 => kc0 W c d.2
  | 1 => kc1 W c d.2
  | 2 => kc2 W c d.2
  | 5 => kc5 W c d.2
  | 6 => kc6 W c d.2
  | _ => .inr (0, [])
def kDom (W : kW) (f j : Nat) : Prop := (f = 0 ∧ j < 11) ∨ (f = 1 ∧ 1 ≤ j ∧ j ≤ kC W) ∨ (f = 2 ∧ 1 ≤ j ∧ j < 4) ∨ (f = 5 ∧ j < kT W) ∨ (f = 6 ∧ j < kT W)
theorem kDom0 {W : kW} {j : Nat} (h : j < 11) : kDom W 0 j := Or.inl ⟨rfl, h⟩
theorem kDom1 {W : kW} {j : Nat} (h1 : 1 ≤ j) (h2 : j ≤ kC W) : kDom W 1 j := Or.inr (Or.inl ⟨rfl, h1, h2⟩)
theorem kDom2 {W : kW} {j : Nat} (h1 : 1 ≤ j) (h2 : j < 4) : kDom W 2 j := Or.inr (Or.inr (Or.inl ⟨rfl, h1, h2⟩))
theorem kDom5 {W : kW} {j : Nat} (h : j < kT W) : kDom W 5 j := Or.inr (Or.inr (Or.inr (Or.inl ⟨rfl, h⟩)))
theorem kDom6 {W : kW} {j : Nat} (h : j < kT W) : kDom W 6 j := Or.inr (Or.inr (Or.inr (Or.inr ⟨rfl, h⟩)))
def kOk (W : kW) (h : xH) : Prop := (∀ f j, kDom W f j → kA W (kg W f j) = some (f, j) ∧ h.1 ≤ kg W f j ∧ kg W f j < xn h) ∧ ∀ a d, kA W a = some d → kDom W d.1 d.2 ∧ kg W d.1 d.2 = a
def kPut (W : kW) (h : xH) (c : mS) : xH := (h.1, h.2.1, h.2.2.mapIdx (fun i e => (kA W (h.1 + i)).elim e (kCell W c)))
theorem kPut_n (W : kW) (h : xH) (c : mS) : xn (kPut W h c) = xn h := by simp [xn, kPut]
theorem kOk.new {W : kW} {h : xH} (ok : kOk W h) : kA W (xn h) = none := by
  cases e : kA W (xn h) with
  | none => rfl
  | some d =>
    obtain ⟨h1, h2⟩ := ok.2 _ _ e
    have := (ok.1 _ _ h1).2.2
    omega
theorem kOk.inj {W : kW} {h : xH} (ok : kOk W h) {f j f' j' : Nat} (D : kDom W f j) (D' : kDom W f' j') (e : kg W f j = kg W f' j') : f = f' ∧ j = j' := by
  have h1 := (ok.1 _ _ D).1
  rw [e, (ok.1 _ _ D').1] at h1
  have := Option.some.inj h1
  exact ⟨(congrArg Prod.fst this).symm, (congrArg Prod.snd this).symm⟩
theorem xat_kPut {W : kW} {h : xH} {c : mS} {f j : Nat} (ok : kOk W h) (D : kDom W f j) : xat (kPut W h c) (kg W f j) = some (kCell W c (f, j)) := by
  obtain ⟨h1, h2, h3⟩ := ok.1 _ _ D
  unfold xn at h3
  show (if kg W f j < h.1 then none else (h.2.2.mapIdx _)[kg W f j - h.1]?) = _
  rw [if_neg (by omega), List.getElem?_mapIdx, List.getElem?_eq_getElem (show kg W f j - h.1 < h.2.2.length by omega)]
  show some ((kA W (h.1 + (kg W f j - h.1))).elim _ _) = _
  rw [show h.1 + (kg W f j - h.1) = kg W f j by omega, h1]
  rfl
theorem xat_kOut {W : kW} {h : xH} {c : mS} {a : Nat} (ha : kA W a = none) : xat (kPut W h c) a = xat h a := by
  show (if a < h.1 then none else (h.2.2.mapIdx _)[a - h.1]?) = (if a < h.1 then none else h.2.2[a - h.1]?)
  by_cases q : a < h.1
  · rw [if_pos q, if_pos q]
  · rw [if_neg q, if_neg q, List.getElem?_mapIdx]
    cases h.2.2[a - h.1]? with
    | none => rfl
    | some e =>
      show some ((kA W (h.1 + (a - h.1))).elim _ _) = _
      rw [show h.1 + (a - h.1) = a by omega, ha]
      rfl
theorem kPut_congr {W W' : kW} {h : xH} {c c' : mS} (hA : kA W' = kA W) (hc : ∀ d, kA W ≠ (fun _ => none) → kDom W d.1 d.2 → kCell W' c' d = kCell W c d) (ok : kOk W h) : kPut W' h c' = kPut W h c := by
  unfold kPut
  rw [hA]
  refine congrArg (fun l => (h.1, h.2.1, l)) (List.ext_getElem? fun i => ?_)
  rw [List.getElem?_mapIdx, List.getElem?_mapIdx]
  cases h.2.2[i]? with
  | none => rfl
  | some e =>
    show some _ = some _
    cases q : kA W (h.1 + i) with
    | none => rfl
    | some d =>
      show some (kCell W' c' d) = some (kCell W c d)
      rw [hc d (fun w => by rw [w] at q; cases q) (ok.2 _ _ q).1]
theorem mapIdx_set (l : List va_E) (F G : Nat → va_E → va_E) (k : Nat) (e : va_E) (hk : k < l.length) (h1 : ∀ x, G k x = e) (h2 : ∀ i, i ≠ k → ∀ x, F i x = G i x) : (l.mapIdx F).set k e = l.mapIdx G := by
  refine List.ext_getElem? fun i => ?_
  by_cases hi : i = k
  · subst hi
    rw [List.getElem?_set_self (by rw [List.length_mapIdx]; exact hk), List.getElem?_mapIdx, List.getElem?_eq_getElem hk, Option.map_some, h1]
  · rw [List.getElem?_set_ne (fun w => hi w.symm), List.getElem?_mapIdx, List.getElem?_mapIdx]
    cases l[i]? with
    | none => rfl
    | some x => rw [Option.map_some, Option.map_some, h2 i hi]
theorem kPut_set {W : kW} {h : xH} {c c' : mS} {f j : Nat} (ok : kOk W h) (D : kDom W f j) (hs : ∀ d, d ≠ (f, j) → kCell W c' d = kCell W c d) : xset (kPut W h c) (kg W f j) (kCell W c' (f, j)) = kPut W h c' := by
  obtain ⟨h1, h2, h3⟩ := ok.1 _ _ D
  unfold xn at h3
  have e0 : h.1 + (kg W f j - h.1) = kg W f j := by omega
  have key := mapIdx_set h.2.2 (fun i e => (kA W (h.1 + i)).elim e (kCell W c)) (fun i e => (kA W (h.1 + i)).elim e (kCell W c')) (kg W f j - h.1) (kCell W c' (f, j)) (by omega) (fun x => by rw [e0, h1, Option.elim_some]) (fun i hi x => by
    show (kA W (h.1 + i)).elim x (kCell W c) = (kA W (h.1 + i)).elim x (kCell W c')
    cases q : kA W (h.1 + i) with
    | none => rw [Option.elim_none, Option.elim_none]
    | some d =>
      rw [Option.elim_some, Option.elim_some, hs d]
      intro w
      rw [w] at q
      have q2 := (ok.2 _ _ q).2
      dsimp only at q2
      omega)
  show (h.1, h.2.1, (h.2.2.mapIdx (fun i e => (kA W (h.1 + i)).elim e (kCell W c))).set (kg W f j - h.1) (kCell W c' (f, j))) = (h.1, h.2.1, h.2.2.mapIdx (fun i e => (kA W (h.1 + i)).elim e (kCell W c')))
  rw [key]
theorem sS_fn {c : mS} {F J f : Nat} {V : Int32} (hf : f ≠ F) : sS c F J V f = c f := by
  funext j
  show (if f = F ∧ j = J then V else c f j) = c f j
  rw [if_neg (fun w => hf w.1)]
theorem kr_thing {W : kW} {h : xH} {c : mS} (ok : kOk W h) {j : Nat} (h1 : 1 ≤ j) (h2 : j ≤ kC W) : rdR (kPut W h c) (kg W 1 j) 1 0 = some (some (kg W 5 (vN (c 8 j)))) := rdR_of (xat_kPut ok (kDom1 h1 h2)) rfl
theorem kr_rights {W : kW} {h : xH} {c : mS} (ok : kOk W h) {j : Nat} (h1 : 1 ≤ j) (h2 : j ≤ kC W) : rdI (kPut W h c) (kg W 1 j) 1 1 = some (c 9 j) := rdI_of (xat_kPut ok (kDom1 h1 h2)) rfl
theorem kr_badge {W : kW} {h : xH} {c : mS} (ok : kOk W h) {j : Nat} (h1 : 1 ≤ j) (h2 : j ≤ kC W) : rdI (kPut W h c) (kg W 1 j) 1 2 = some (c 10 j) := rdI_of (xat_kPut ok (kDom1 h1 h2)) rfl
theorem kr_from {W : kW} {h : xH} {c : mS} (ok : kOk W h) {j : Nat} (h1 : 1 ≤ j) (h2 : j ≤ kC W) : rdR (kPut W h c) (kg W 1 j) 1 3 = some (kRC W (c 11 j)) := rdR_of (xat_kPut ok (kDom1 h1 h2)) rfl
theorem ke_from {W : kW} {c : mS} {j : Nat} (v : Int32) : ∀ d, d ≠ (1, j) → kCell W (sS c 11 j v) d = kCell W c d := by
  intro d hd
  obtain ⟨f, i⟩ := d
  unfold kCell
  split
  · unfold kc0; split <;> simp only [sS_app, sS_fn, Nat.reduceEqDiff, false_and, ↓reduceIte, ne_eq, not_false_eq_true]
  · rename_i hq
    have hi : i ≠ j := fun w => hd (by rw [w, show f = 1 from hq])
    simp only [kc1, sS_app, hi, Nat.reduceEqDiff, false_and, and_false, ↓reduceIte]
  · simp only [kc2, sS_app, Nat.reduceEqDiff, false_and, ↓reduceIte]
  · simp only [kc5, sS_app, Nat.reduceEqDiff, false_and, ↓reduceIte]
  · simp only [kc6, sS_app, Nat.reduceEqDiff, false_and, ↓reduceIte]
  · rfl
theorem kw_from {W : kW} {h : xH} {c : mS} (ok : kOk W h) {j : Nat} (h1 : 1 ≤ j) (h2 : j ≤ kC W) (v : Int32) : xwr (kPut W h c) (kg W 1 j) 1 3 (va_rf (kRC W v)) = some (kPut W h (sS c 11 j v)) := by
  rw [xwr_of (xat_kPut ok (kDom1 h1 h2)) (Nat.le_of_ble_eq_true rfl), show (Sum.inr (1, List.set _ 3 (va_rf (kRC W v))) : va_E) = kCell W (sS c 11 j v) (1, j) from ?_, kPut_set ok (kDom1 h1 h2) (ke_from _)]
  simp only [kCell, kc1, List.set_cons_succ, List.set_cons_zero, sS_app, Nat.reduceEqDiff, false_and, and_self, ↓reduceIte]
theorem kr_table {W : kW} {h : xH} {c : mS} (ok : kOk W h) {j : Nat} (h1 : 1 ≤ j) (h2 : j ≤ kC W) : rdR (kPut W h c) (kg W 1 j) 1 4 = some (kRT W (c 64 j)) := rdR_of (xat_kPut ok (kDom1 h1 h2)) rfl
theorem ke_table {W : kW} {c : mS} {j : Nat} (v : Int32) : ∀ d, d ≠ (1, j) → kCell W (sS c 64 j v) d = kCell W c d := by
  intro d hd
  obtain ⟨f, i⟩ := d
  unfold kCell
  split
  · unfold kc0; split <;> simp only [sS_app, sS_fn, Nat.reduceEqDiff, false_and, ↓reduceIte, ne_eq, not_false_eq_true]
  · rename_i hq
    have hi : i ≠ j := fun w => hd (by rw [w, show f = 1 from hq])
    simp only [kc1, sS_app, hi, Nat.reduceEqDiff, false_and, and_false, ↓reduceIte]
  · simp only [kc2, sS_app, Nat.reduceEqDiff, false_and, ↓reduceIte]
  · simp only [kc5, sS_app, Nat.reduceEqDiff, false_and, ↓reduceIte]
  · simp only [kc6, sS_app, Nat.reduceEqDiff, false_and, ↓reduceIte]
  · rfl
theorem kw_table {W : kW} {h : xH} {c : mS} (ok : kOk W h) {j : Nat} (h1 : 1 ≤ j) (h2 : j ≤ kC W) (v : Int32) : xwr (kPut W h c) (kg W 1 j) 1 4 (va_rf (kRT W v)) = some (kPut W h (sS c 64 j v)) := by
  rw [xwr_of (xat_kPut ok (kDom1 h1 h2)) (Nat.le_of_ble_eq_true rfl), show (Sum.inr (1, List.set _ 4 (va_rf (kRT W v))) : va_E) = kCell W (sS c 64 j v) (1, j) from ?_, kPut_set ok (kDom1 h1 h2) (ke_table _)]
  simp only [kCell, kc1, List.set_cons_succ, List.set_cons_zero, sS_app, Nat.reduceEqDiff, false_and, and_self, ↓reduceIte]
theorem kr_slot {W : kW} {h : xH} {c : mS} (ok : kOk W h) {j : Nat} (h1 : 1 ≤ j) (h2 : j ≤ kC W) : rdI (kPut W h c) (kg W 1 j) 1 5 = some (c 65 j) := rdI_of (xat_kPut ok (kDom1 h1 h2)) rfl
theorem ke_slot {W : kW} {c : mS} {j : Nat} (v : Int32) : ∀ d, d ≠ (1, j) → kCell W (sS c 65 j v) d = kCell W c d := by
  intro d hd
  obtain ⟨f, i⟩ := d
  unfold kCell
  split
  · unfold kc0; split <;> simp only [sS_app, sS_fn, Nat.reduceEqDiff, false_and, ↓reduceIte, ne_eq, not_false_eq_true]
  · rename_i hq
    have hi : i ≠ j := fun w => hd (by rw [w, show f = 1 from hq])
    simp only [kc1, sS_app, hi, Nat.reduceEqDiff, false_and, and_false, ↓reduceIte]
  · simp only [kc2, sS_app, Nat.reduceEqDiff, false_and, ↓reduceIte]
  · simp only [kc5, sS_app, Nat.reduceEqDiff, false_and, ↓reduceIte]
  · simp only [kc6, sS_app, Nat.reduceEqDiff, false_and, ↓reduceIte]
  · rfl
theorem kw_slot {W : kW} {h : xH} {c : mS} (ok : kOk W h) {j : Nat} (h1 : 1 ≤ j) (h2 : j ≤ kC W) (v : Int32) : xwr (kPut W h c) (kg W 1 j) 1 5 (.int v) = some (kPut W h (sS c 65 j v)) := by
  rw [xwr_of (xat_kPut ok (kDom1 h1 h2)) (Nat.le_of_ble_eq_true rfl), show (Sum.inr (1, List.set _ 5 (.int v)) : va_E) = kCell W (sS c 65 j v) (1, j) from ?_, kPut_set ok (kDom1 h1 h2) (ke_slot _)]
  simp only [kCell, kc1, List.set_cons_succ, List.set_cons_zero, sS_app, Nat.reduceEqDiff, false_and, and_self, ↓reduceIte]
theorem kr_cgone {W : kW} {h : xH} {c : mS} (ok : kOk W h) {j : Nat} (h1 : 1 ≤ j) (h2 : j ≤ kC W) : rdI (kPut W h c) (kg W 1 j) 1 6 = some (kG (c 12 j)) := rdI_of (xat_kPut ok (kDom1 h1 h2)) rfl
theorem ke_cgone {W : kW} {c : mS} {j : Nat} (v : Int32) : ∀ d, d ≠ (1, j) → kCell W (sS c 12 j v) d = kCell W c d := by
  intro d hd
  obtain ⟨f, i⟩ := d
  unfold kCell
  split
  · unfold kc0; split <;> simp only [sS_app, sS_fn, Nat.reduceEqDiff, false_and, ↓reduceIte, ne_eq, not_false_eq_true]
  · rename_i hq
    have hi : i ≠ j := fun w => hd (by rw [w, show f = 1 from hq])
    simp only [kc1, sS_app, hi, Nat.reduceEqDiff, false_and, and_false, ↓reduceIte]
  · simp only [kc2, sS_app, Nat.reduceEqDiff, false_and, ↓reduceIte]
  · simp only [kc5, sS_app, Nat.reduceEqDiff, false_and, ↓reduceIte]
  · simp only [kc6, sS_app, Nat.reduceEqDiff, false_and, ↓reduceIte]
  · rfl
theorem kw_cgone {W : kW} {h : xH} {c : mS} (ok : kOk W h) {j : Nat} (h1 : 1 ≤ j) (h2 : j ≤ kC W) (v : Int32) : xwr (kPut W h c) (kg W 1 j) 1 6 (.int (kG v)) = some (kPut W h (sS c 12 j v)) := by
  rw [xwr_of (xat_kPut ok (kDom1 h1 h2)) (Nat.le_of_ble_eq_true rfl), show (Sum.inr (1, List.set _ 6 (.int (kG v))) : va_E) = kCell W (sS c 12 j v) (1, j) from ?_, kPut_set ok (kDom1 h1 h2) (ke_cgone _)]
  simp only [kCell, kc1, List.set_cons_succ, List.set_cons_zero, sS_app, Nat.reduceEqDiff, false_and, and_self, ↓reduceIte]
theorem kr_lnumber {W : kW} {h : xH} {c : mS} (ok : kOk W h) {j : Nat} (h1 : 1 ≤ j) (h2 : j < 4) : rdI (kPut W h c) (kg W 2 j) 2 0 = some (nI j) := rdI_of (xat_kPut ok (kDom2 h1 h2)) rfl
theorem kr_root {W : kW} {h : xH} {c : mS} (ok : kOk W h) {j : Nat} (h1 : 1 ≤ j) (h2 : j < 4) : rdR (kPut W h c) (kg W 2 j) 2 1 = some (some (kg W 5 (1 + j))) := rdR_of (xat_kPut ok (kDom2 h1 h2)) rfl
theorem kr_state {W : kW} {h : xH} {c : mS} (ok : kOk W h) {j : Nat} (h1 : 1 ≤ j) (h2 : j < 4) : rdI (kPut W h c) (kg W 2 j) 2 2 = some (c 15 j) := rdI_of (xat_kPut ok (kDom2 h1 h2)) rfl
theorem ke_state {W : kW} {c : mS} {j : Nat} (v : Int32) : ∀ d, d ≠ (2, j) → kCell W (sS c 15 j v) d = kCell W c d := by
  intro d hd
  obtain ⟨f, i⟩ := d
  unfold kCell
  split
  · unfold kc0; split <;> simp only [sS_app, sS_fn, Nat.reduceEqDiff, false_and, ↓reduceIte, ne_eq, not_false_eq_true]
  · simp only [kc1, sS_app, Nat.reduceEqDiff, false_and, ↓reduceIte]
  · rename_i hq
    have hi : i ≠ j := fun w => hd (by rw [w, show f = 2 from hq])
    simp only [kc2, sS_app, hi, Nat.reduceEqDiff, false_and, and_false, ↓reduceIte]
  · simp only [kc5, sS_app, Nat.reduceEqDiff, false_and, ↓reduceIte]
  · simp only [kc6, sS_app, Nat.reduceEqDiff, false_and, ↓reduceIte]
  · rfl
theorem kw_state {W : kW} {h : xH} {c : mS} (ok : kOk W h) {j : Nat} (h1 : 1 ≤ j) (h2 : j < 4) (v : Int32) : xwr (kPut W h c) (kg W 2 j) 2 2 (.int v) = some (kPut W h (sS c 15 j v)) := by
  rw [xwr_of (xat_kPut ok (kDom2 h1 h2)) (Nat.le_of_ble_eq_true rfl), show (Sum.inr (2, List.set _ 2 (.int v)) : va_E) = kCell W (sS c 15 j v) (2, j) from ?_, kPut_set ok (kDom2 h1 h2) (ke_state _)]
  simp only [kCell, kc2, List.set_cons_succ, List.set_cons_zero, sS_app, Nat.reduceEqDiff, false_and, and_self, ↓reduceIte]
theorem kr_outcome {W : kW} {h : xH} {c : mS} (ok : kOk W h) {j : Nat} (h1 : 1 ≤ j) (h2 : j < 4) : rdI (kPut W h c) (kg W 2 j) 2 3 = some (c 16 j) := rdI_of (xat_kPut ok (kDom2 h1 h2)) rfl
theorem ke_outcome {W : kW} {c : mS} {j : Nat} (v : Int32) : ∀ d, d ≠ (2, j) → kCell W (sS c 16 j v) d = kCell W c d := by
  intro d hd
  obtain ⟨f, i⟩ := d
  unfold kCell
  split
  · unfold kc0; split <;> simp only [sS_app, sS_fn, Nat.reduceEqDiff, false_and, ↓reduceIte, ne_eq, not_false_eq_true]
  · simp only [kc1, sS_app, Nat.reduceEqDiff, false_and, ↓reduceIte]
  · rename_i hq
    have hi : i ≠ j := fun w => hd (by rw [w, show f = 2 from hq])
    simp only [kc2, sS_app, hi, Nat.reduceEqDiff, false_and, and_false, ↓reduceIte]
  · simp only [kc5, sS_app, Nat.reduceEqDiff, false_and, ↓reduceIte]
  · simp only [kc6, sS_app, Nat.reduceEqDiff, false_and, ↓reduceIte]
  · rfl
theorem kw_outcome {W : kW} {h : xH} {c : mS} (ok : kOk W h) {j : Nat} (h1 : 1 ≤ j) (h2 : j < 4) (v : Int32) : xwr (kPut W h c) (kg W 2 j) 2 3 (.int v) = some (kPut W h (sS c 16 j v)) := by
  rw [xwr_of (xat_kPut ok (kDom2 h1 h2)) (Nat.le_of_ble_eq_true rfl), show (Sum.inr (2, List.set _ 3 (.int v)) : va_E) = kCell W (sS c 16 j v) (2, j) from ?_, kPut_set ok (kDom2 h1 h2) (ke_outcome _)]
  simp only [kCell, kc2, List.set_cons_succ, List.set_cons_zero, sS_app, Nat.reduceEqDiff, false_and, and_self, ↓reduceIte]
theorem kr_word {W : kW} {h : xH} {c : mS} (ok : kOk W h) {j : Nat} (h1 : 1 ≤ j) (h2 : j < 4) : rdI (kPut W h c) (kg W 2 j) 2 4 = some (c 17 j) := rdI_of (xat_kPut ok (kDom2 h1 h2)) rfl
theorem ke_word {W : kW} {c : mS} {j : Nat} (v : Int32) : ∀ d, d ≠ (2, j) → kCell W (sS c 17 j v) d = kCell W c d := by
  intro d hd
  obtain ⟨f, i⟩ := d
  unfold kCell
  split
  · unfold kc0; split <;> simp only [sS_app, sS_fn, Nat.reduceEqDiff, false_and, ↓reduceIte, ne_eq, not_false_eq_true]
  · simp only [kc1, sS_app, Nat.reduceEqDiff, false_and, ↓reduceIte]
  · rename_i hq
    have hi : i ≠ j := fun w => hd (by rw [w, show f = 2 from hq])
    simp only [kc2, sS_app, hi, Nat.reduceEqDiff, false_and, and_false, ↓reduceIte]
  · simp only [kc5, sS_app, Nat.reduceEqDiff, false_and, ↓reduceIte]
  · simp only [kc6, sS_app, Nat.reduceEqDiff, false_and, ↓reduceIte]
  · rfl
theorem kw_word {W : kW} {h : xH} {c : mS} (ok : kOk W h) {j : Nat} (h1 : 1 ≤ j) (h2 : j < 4) (v : Int32) : xwr (kPut W h c) (kg W 2 j) 2 4 (.int v) = some (kPut W h (sS c 17 j v)) := by
  rw [xwr_of (xat_kPut ok (kDom2 h1 h2)) (Nat.le_of_ble_eq_true rfl), show (Sum.inr (2, List.set _ 4 (.int v)) : va_E) = kCell W (sS c 17 j v) (2, j) from ?_, kPut_set ok (kDom2 h1 h2) (ke_word _)]
  simp only [kCell, kc2, List.set_cons_succ, List.set_cons_zero, sS_app, Nat.reduceEqDiff, false_and, and_self, ↓reduceIte]
theorem kr_lbadge {W : kW} {h : xH} {c : mS} (ok : kOk W h) {j : Nat} (h1 : 1 ≤ j) (h2 : j < 4) : rdI (kPut W h c) (kg W 2 j) 2 5 = some (c 18 j) := rdI_of (xat_kPut ok (kDom2 h1 h2)) rfl
theorem ke_lbadge {W : kW} {c : mS} {j : Nat} (v : Int32) : ∀ d, d ≠ (2, j) → kCell W (sS c 18 j v) d = kCell W c d := by
  intro d hd
  obtain ⟨f, i⟩ := d
  unfold kCell
  split
  · unfold kc0; split <;> simp only [sS_app, sS_fn, Nat.reduceEqDiff, false_and, ↓reduceIte, ne_eq, not_false_eq_true]
  · simp only [kc1, sS_app, Nat.reduceEqDiff, false_and, ↓reduceIte]
  · rename_i hq
    have hi : i ≠ j := fun w => hd (by rw [w, show f = 2 from hq])
    simp only [kc2, sS_app, hi, Nat.reduceEqDiff, false_and, and_false, ↓reduceIte]
  · simp only [kc5, sS_app, Nat.reduceEqDiff, false_and, ↓reduceIte]
  · simp only [kc6, sS_app, Nat.reduceEqDiff, false_and, ↓reduceIte]
  · rfl
theorem kw_lbadge {W : kW} {h : xH} {c : mS} (ok : kOk W h) {j : Nat} (h1 : 1 ≤ j) (h2 : j < 4) (v : Int32) : xwr (kPut W h c) (kg W 2 j) 2 5 (.int v) = some (kPut W h (sS c 18 j v)) := by
  rw [xwr_of (xat_kPut ok (kDom2 h1 h2)) (Nat.le_of_ble_eq_true rfl), show (Sum.inr (2, List.set _ 5 (.int v)) : va_E) = kCell W (sS c 18 j v) (2, j) from ?_, kPut_set ok (kDom2 h1 h2) (ke_lbadge _)]
  simp only [kCell, kc2, List.set_cons_succ, List.set_cons_zero, sS_app, Nat.reduceEqDiff, false_and, and_self, ↓reduceIte]
theorem kr_address {W : kW} {h : xH} {c : mS} (ok : kOk W h) {j : Nat} (h1 : 1 ≤ j) (h2 : j < 4) : rdI (kPut W h c) (kg W 2 j) 2 6 = some (c 19 j) := rdI_of (xat_kPut ok (kDom2 h1 h2)) rfl
theorem ke_address {W : kW} {c : mS} {j : Nat} (v : Int32) : ∀ d, d ≠ (2, j) → kCell W (sS c 19 j v) d = kCell W c d := by
  intro d hd
  obtain ⟨f, i⟩ := d
  unfold kCell
  split
  · unfold kc0; split <;> simp only [sS_app, sS_fn, Nat.reduceEqDiff, false_and, ↓reduceIte, ne_eq, not_false_eq_true]
  · simp only [kc1, sS_app, Nat.reduceEqDiff, false_and, ↓reduceIte]
  · rename_i hq
    have hi : i ≠ j := fun w => hd (by rw [w, show f = 2 from hq])
    simp only [kc2, sS_app, hi, Nat.reduceEqDiff, false_and, and_false, ↓reduceIte]
  · simp only [kc5, sS_app, Nat.reduceEqDiff, false_and, ↓reduceIte]
  · simp only [kc6, sS_app, Nat.reduceEqDiff, false_and, ↓reduceIte]
  · rfl
theorem kw_address {W : kW} {h : xH} {c : mS} (ok : kOk W h) {j : Nat} (h1 : 1 ≤ j) (h2 : j < 4) (v : Int32) : xwr (kPut W h c) (kg W 2 j) 2 6 (.int v) = some (kPut W h (sS c 19 j v)) := by
  rw [xwr_of (xat_kPut ok (kDom2 h1 h2)) (Nat.le_of_ble_eq_true rfl), show (Sum.inr (2, List.set _ 6 (.int v)) : va_E) = kCell W (sS c 19 j v) (2, j) from ?_, kPut_set ok (kDom2 h1 h2) (ke_address _)]
  simp only [kCell, kc2, List.set_cons_succ, List.set_cons_zero, sS_app, Nat.reduceEqDiff, false_and, and_self, ↓reduceIte]
theorem kr_priority {W : kW} {h : xH} {c : mS} (ok : kOk W h) {j : Nat} (h1 : 1 ≤ j) (h2 : j < 4) : rdI (kPut W h c) (kg W 2 j) 2 7 = some (c 20 j) := rdI_of (xat_kPut ok (kDom2 h1 h2)) rfl
theorem ke_priority {W : kW} {c : mS} {j : Nat} (v : Int32) : ∀ d, d ≠ (2, j) → kCell W (sS c 20 j v) d = kCell W c d := by
  intro d hd
  obtain ⟨f, i⟩ := d
  unfold kCell
  split
  · unfold kc0; split <;> simp only [sS_app, sS_fn, Nat.reduceEqDiff, false_and, ↓reduceIte, ne_eq, not_false_eq_true]
  · simp only [kc1, sS_app, Nat.reduceEqDiff, false_and, ↓reduceIte]
  · rename_i hq
    have hi : i ≠ j := fun w => hd (by rw [w, show f = 2 from hq])
    simp only [kc2, sS_app, hi, Nat.reduceEqDiff, false_and, and_false, ↓reduceIte]
  · simp only [kc5, sS_app, Nat.reduceEqDiff, false_and, ↓reduceIte]
  · simp only [kc6, sS_app, Nat.reduceEqDiff, false_and, ↓reduceIte]
  · rfl
theorem kw_priority {W : kW} {h : xH} {c : mS} (ok : kOk W h) {j : Nat} (h1 : 1 ≤ j) (h2 : j < 4) (v : Int32) : xwr (kPut W h c) (kg W 2 j) 2 7 (.int v) = some (kPut W h (sS c 20 j v)) := by
  rw [xwr_of (xat_kPut ok (kDom2 h1 h2)) (Nat.le_of_ble_eq_true rfl), show (Sum.inr (2, List.set _ 7 (.int v)) : va_E) = kCell W (sS c 20 j v) (2, j) from ?_, kPut_set ok (kDom2 h1 h2) (ke_priority _)]
  simp only [kCell, kc2, List.set_cons_succ, List.set_cons_zero, sS_app, Nat.reduceEqDiff, false_and, and_self, ↓reduceIte]
theorem kr_place {W : kW} {h : xH} {c : mS} (ok : kOk W h) {j : Nat} (h1 : 1 ≤ j) (h2 : j < 4) : rdI (kPut W h c) (kg W 2 j) 2 8 = some (c 21 j) := rdI_of (xat_kPut ok (kDom2 h1 h2)) rfl
theorem ke_place {W : kW} {c : mS} {j : Nat} (v : Int32) : ∀ d, d ≠ (2, j) → kCell W (sS c 21 j v) d = kCell W c d := by
  intro d hd
  obtain ⟨f, i⟩ := d
  unfold kCell
  split
  · unfold kc0; split <;> simp only [sS_app, sS_fn, Nat.reduceEqDiff, false_and, ↓reduceIte, ne_eq, not_false_eq_true]
  · simp only [kc1, sS_app, Nat.reduceEqDiff, false_and, ↓reduceIte]
  · rename_i hq
    have hi : i ≠ j := fun w => hd (by rw [w, show f = 2 from hq])
    simp only [kc2, sS_app, hi, Nat.reduceEqDiff, false_and, and_false, ↓reduceIte]
  · simp only [kc5, sS_app, Nat.reduceEqDiff, false_and, ↓reduceIte]
  · simp only [kc6, sS_app, Nat.reduceEqDiff, false_and, ↓reduceIte]
  · rfl
theorem kw_place {W : kW} {h : xH} {c : mS} (ok : kOk W h) {j : Nat} (h1 : 1 ≤ j) (h2 : j < 4) (v : Int32) : xwr (kPut W h c) (kg W 2 j) 2 8 (.int v) = some (kPut W h (sS c 21 j v)) := by
  rw [xwr_of (xat_kPut ok (kDom2 h1 h2)) (Nat.le_of_ble_eq_true rfl), show (Sum.inr (2, List.set _ 8 (.int v)) : va_E) = kCell W (sS c 21 j v) (2, j) from ?_, kPut_set ok (kDom2 h1 h2) (ke_place _)]
  simp only [kCell, kc2, List.set_cons_succ, List.set_cons_zero, sS_app, Nat.reduceEqDiff, false_and, and_self, ↓reduceIte]
theorem kr_since {W : kW} {h : xH} {c : mS} (ok : kOk W h) {j : Nat} (h1 : 1 ≤ j) (h2 : j < 4) : rdI (kPut W h c) (kg W 2 j) 2 9 = some (c 23 j) := rdI_of (xat_kPut ok (kDom2 h1 h2)) rfl
theorem ke_since {W : kW} {c : mS} {j : Nat} (v : Int32) : ∀ d, d ≠ (2, j) → kCell W (sS c 23 j v) d = kCell W c d := by
  intro d hd
  obtain ⟨f, i⟩ := d
  unfold kCell
  split
  · unfold kc0; split <;> simp only [sS_app, sS_fn, Nat.reduceEqDiff, false_and, ↓reduceIte, ne_eq, not_false_eq_true]
  · simp only [kc1, sS_app, Nat.reduceEqDiff, false_and, ↓reduceIte]
  · rename_i hq
    have hi : i ≠ j := fun w => hd (by rw [w, show f = 2 from hq])
    simp only [kc2, sS_app, hi, Nat.reduceEqDiff, false_and, and_false, ↓reduceIte]
  · simp only [kc5, sS_app, Nat.reduceEqDiff, false_and, ↓reduceIte]
  · simp only [kc6, sS_app, Nat.reduceEqDiff, false_and, ↓reduceIte]
  · rfl
theorem kw_since {W : kW} {h : xH} {c : mS} (ok : kOk W h) {j : Nat} (h1 : 1 ≤ j) (h2 : j < 4) (v : Int32) : xwr (kPut W h c) (kg W 2 j) 2 9 (.int v) = some (kPut W h (sS c 23 j v)) := by
  rw [xwr_of (xat_kPut ok (kDom2 h1 h2)) (Nat.le_of_ble_eq_true rfl), show (Sum.inr (2, List.set _ 9 (.int v)) : va_E) = kCell W (sS c 23 j v) (2, j) from ?_, kPut_set ok (kDom2 h1 h2) (ke_since _)]
  simp only [kCell, kc2, List.set_cons_succ, List.set_cons_zero, sS_app, Nat.reduceEqDiff, false_and, and_self, ↓reduceIte]
theorem kr_waitsAt {W : kW} {h : xH} {c : mS} (ok : kOk W h) {j : Nat} (h1 : 1 ≤ j) (h2 : j < 4) : rdR (kPut W h c) (kg W 2 j) 2 10 = some (kRT W (c 52 j)) := rdR_of (xat_kPut ok (kDom2 h1 h2)) rfl
theorem ke_waitsAt {W : kW} {c : mS} {j : Nat} (v : Int32) : ∀ d, d ≠ (2, j) → kCell W (sS c 52 j v) d = kCell W c d := by
  intro d hd
  obtain ⟨f, i⟩ := d
  unfold kCell
  split
  · unfold kc0; split <;> simp only [sS_app, sS_fn, Nat.reduceEqDiff, false_and, ↓reduceIte, ne_eq, not_false_eq_true]
  · simp only [kc1, sS_app, Nat.reduceEqDiff, false_and, ↓reduceIte]
  · rename_i hq
    have hi : i ≠ j := fun w => hd (by rw [w, show f = 2 from hq])
    simp only [kc2, sS_app, hi, Nat.reduceEqDiff, false_and, and_false, ↓reduceIte]
  · simp only [kc5, sS_app, Nat.reduceEqDiff, false_and, ↓reduceIte]
  · simp only [kc6, sS_app, Nat.reduceEqDiff, false_and, ↓reduceIte]
  · rfl
theorem kw_waitsAt {W : kW} {h : xH} {c : mS} (ok : kOk W h) {j : Nat} (h1 : 1 ≤ j) (h2 : j < 4) (v : Int32) : xwr (kPut W h c) (kg W 2 j) 2 10 (va_rf (kRT W v)) = some (kPut W h (sS c 52 j v)) := by
  rw [xwr_of (xat_kPut ok (kDom2 h1 h2)) (Nat.le_of_ble_eq_true rfl), show (Sum.inr (2, List.set _ 10 (va_rf (kRT W v))) : va_E) = kCell W (sS c 52 j v) (2, j) from ?_, kPut_set ok (kDom2 h1 h2) (ke_waitsAt _)]
  simp only [kCell, kc2, List.set_cons_succ, List.set_cons_zero, sS_app, Nat.reduceEqDiff, false_and, and_self, ↓reduceIte]
theorem kr_sentWord {W : kW} {h : xH} {c : mS} (ok : kOk W h) {j : Nat} (h1 : 1 ≤ j) (h2 : j < 4) : rdI (kPut W h c) (kg W 2 j) 2 11 = some (c 24 j) := rdI_of (xat_kPut ok (kDom2 h1 h2)) rfl
theorem ke_sentWord {W : kW} {c : mS} {j : Nat} (v : Int32) : ∀ d, d ≠ (2, j) → kCell W (sS c 24 j v) d = kCell W c d := by
  intro d hd
  obtain ⟨f, i⟩ := d
  unfold kCell
  split
  · unfold kc0; split <;> simp only [sS_app, sS_fn, Nat.reduceEqDiff, false_and, ↓reduceIte, ne_eq, not_false_eq_true]
  · simp only [kc1, sS_app, Nat.reduceEqDiff, false_and, ↓reduceIte]
  · rename_i hq
    have hi : i ≠ j := fun w => hd (by rw [w, show f = 2 from hq])
    simp only [kc2, sS_app, hi, Nat.reduceEqDiff, false_and, and_false, ↓reduceIte]
  · simp only [kc5, sS_app, Nat.reduceEqDiff, false_and, ↓reduceIte]
  · simp only [kc6, sS_app, Nat.reduceEqDiff, false_and, ↓reduceIte]
  · rfl
theorem kw_sentWord {W : kW} {h : xH} {c : mS} (ok : kOk W h) {j : Nat} (h1 : 1 ≤ j) (h2 : j < 4) (v : Int32) : xwr (kPut W h c) (kg W 2 j) 2 11 (.int v) = some (kPut W h (sS c 24 j v)) := by
  rw [xwr_of (xat_kPut ok (kDom2 h1 h2)) (Nat.le_of_ble_eq_true rfl), show (Sum.inr (2, List.set _ 11 (.int v)) : va_E) = kCell W (sS c 24 j v) (2, j) from ?_, kPut_set ok (kDom2 h1 h2) (ke_sentWord _)]
  simp only [kCell, kc2, List.set_cons_succ, List.set_cons_zero, sS_app, Nat.reduceEqDiff, false_and, and_self, ↓reduceIte]
theorem kr_sentBadge {W : kW} {h : xH} {c : mS} (ok : kOk W h) {j : Nat} (h1 : 1 ≤ j) (h2 : j < 4) : rdI (kPut W h c) (kg W 2 j) 2 12 = some (c 25 j) := rdI_of (xat_kPut ok (kDom2 h1 h2)) rfl
theorem ke_sentBadge {W : kW} {c : mS} {j : Nat} (v : Int32) : ∀ d, d ≠ (2, j) → kCell W (sS c 25 j v) d = kCell W c d := by
  intro d hd
  obtain ⟨f, i⟩ := d
  unfold kCell
  split
  · unfold kc0; split <;> simp only [sS_app, sS_fn, Nat.reduceEqDiff, false_and, ↓reduceIte, ne_eq, not_false_eq_true]
  · simp only [kc1, sS_app, Nat.reduceEqDiff, false_and, ↓reduceIte]
  · rename_i hq
    have hi : i ≠ j := fun w => hd (by rw [w, show f = 2 from hq])
    simp only [kc2, sS_app, hi, Nat.reduceEqDiff, false_and, and_false, ↓reduceIte]
  · simp only [kc5, sS_app, Nat.reduceEqDiff, false_and, ↓reduceIte]
  · simp only [kc6, sS_app, Nat.reduceEqDiff, false_and, ↓reduceIte]
  · rfl
theorem kw_sentBadge {W : kW} {h : xH} {c : mS} (ok : kOk W h) {j : Nat} (h1 : 1 ≤ j) (h2 : j < 4) (v : Int32) : xwr (kPut W h c) (kg W 2 j) 2 12 (.int v) = some (kPut W h (sS c 25 j v)) := by
  rw [xwr_of (xat_kPut ok (kDom2 h1 h2)) (Nat.le_of_ble_eq_true rfl), show (Sum.inr (2, List.set _ 12 (.int v)) : va_E) = kCell W (sS c 25 j v) (2, j) from ?_, kPut_set ok (kDom2 h1 h2) (ke_sentBadge _)]
  simp only [kCell, kc2, List.set_cons_succ, List.set_cons_zero, sS_app, Nat.reduceEqDiff, false_and, and_self, ↓reduceIte]
theorem kr_sent {W : kW} {h : xH} {c : mS} (ok : kOk W h) {j : Nat} (h1 : 1 ≤ j) (h2 : j < 4) : rdR (kPut W h c) (kg W 2 j) 2 13 = some (kRC W (c 26 j)) := rdR_of (xat_kPut ok (kDom2 h1 h2)) rfl
theorem ke_sent {W : kW} {c : mS} {j : Nat} (v : Int32) : ∀ d, d ≠ (2, j) → kCell W (sS c 26 j v) d = kCell W c d := by
  intro d hd
  obtain ⟨f, i⟩ := d
  unfold kCell
  split
  · unfold kc0; split <;> simp only [sS_app, sS_fn, Nat.reduceEqDiff, false_and, ↓reduceIte, ne_eq, not_false_eq_true]
  · simp only [kc1, sS_app, Nat.reduceEqDiff, false_and, ↓reduceIte]
  · rename_i hq
    have hi : i ≠ j := fun w => hd (by rw [w, show f = 2 from hq])
    simp only [kc2, sS_app, hi, Nat.reduceEqDiff, false_and, and_false, ↓reduceIte]
  · simp only [kc5, sS_app, Nat.reduceEqDiff, false_and, ↓reduceIte]
  · simp only [kc6, sS_app, Nat.reduceEqDiff, false_and, ↓reduceIte]
  · rfl
theorem kw_sent {W : kW} {h : xH} {c : mS} (ok : kOk W h) {j : Nat} (h1 : 1 ≤ j) (h2 : j < 4) (v : Int32) : xwr (kPut W h c) (kg W 2 j) 2 13 (va_rf (kRC W v)) = some (kPut W h (sS c 26 j v)) := by
  rw [xwr_of (xat_kPut ok (kDom2 h1 h2)) (Nat.le_of_ble_eq_true rfl), show (Sum.inr (2, List.set _ 13 (va_rf (kRC W v))) : va_E) = kCell W (sS c 26 j v) (2, j) from ?_, kPut_set ok (kDom2 h1 h2) (ke_sent _)]
  simp only [kCell, kc2, List.set_cons_succ, List.set_cons_zero, sS_app, Nat.reduceEqDiff, false_and, and_self, ↓reduceIte]
theorem kr_intoTable {W : kW} {h : xH} {c : mS} (ok : kOk W h) {j : Nat} (h1 : 1 ≤ j) (h2 : j < 4) : rdR (kPut W h c) (kg W 2 j) 2 14 = some (kRT W (c 56 j)) := rdR_of (xat_kPut ok (kDom2 h1 h2)) rfl
theorem ke_intoTable {W : kW} {c : mS} {j : Nat} (v : Int32) : ∀ d, d ≠ (2, j) → kCell W (sS c 56 j v) d = kCell W c d := by
  intro d hd
  obtain ⟨f, i⟩ := d
  unfold kCell
  split
  · unfold kc0; split <;> simp only [sS_app, sS_fn, Nat.reduceEqDiff, false_and, ↓reduceIte, ne_eq, not_false_eq_true]
  · simp only [kc1, sS_app, Nat.reduceEqDiff, false_and, ↓reduceIte]
  · rename_i hq
    have hi : i ≠ j := fun w => hd (by rw [w, show f = 2 from hq])
    simp only [kc2, sS_app, hi, Nat.reduceEqDiff, false_and, and_false, ↓reduceIte]
  · simp only [kc5, sS_app, Nat.reduceEqDiff, false_and, ↓reduceIte]
  · simp only [kc6, sS_app, Nat.reduceEqDiff, false_and, ↓reduceIte]
  · rfl
theorem kw_intoTable {W : kW} {h : xH} {c : mS} (ok : kOk W h) {j : Nat} (h1 : 1 ≤ j) (h2 : j < 4) (v : Int32) : xwr (kPut W h c) (kg W 2 j) 2 14 (va_rf (kRT W v)) = some (kPut W h (sS c 56 j v)) := by
  rw [xwr_of (xat_kPut ok (kDom2 h1 h2)) (Nat.le_of_ble_eq_true rfl), show (Sum.inr (2, List.set _ 14 (va_rf (kRT W v))) : va_E) = kCell W (sS c 56 j v) (2, j) from ?_, kPut_set ok (kDom2 h1 h2) (ke_intoTable _)]
  simp only [kCell, kc2, List.set_cons_succ, List.set_cons_zero, sS_app, Nat.reduceEqDiff, false_and, and_self, ↓reduceIte]
theorem kr_into {W : kW} {h : xH} {c : mS} (ok : kOk W h) {j : Nat} (h1 : 1 ≤ j) (h2 : j < 4) : rdI (kPut W h c) (kg W 2 j) 2 15 = some (c 27 j) := rdI_of (xat_kPut ok (kDom2 h1 h2)) rfl
theorem ke_into {W : kW} {c : mS} {j : Nat} (v : Int32) : ∀ d, d ≠ (2, j) → kCell W (sS c 27 j v) d = kCell W c d := by
  intro d hd
  obtain ⟨f, i⟩ := d
  unfold kCell
  split
  · unfold kc0; split <;> simp only [sS_app, sS_fn, Nat.reduceEqDiff, false_and, ↓reduceIte, ne_eq, not_false_eq_true]
  · simp only [kc1, sS_app, Nat.reduceEqDiff, false_and, ↓reduceIte]
  · rename_i hq
    have hi : i ≠ j := fun w => hd (by rw [w, show f = 2 from hq])
    simp only [kc2, sS_app, hi, Nat.reduceEqDiff, false_and, and_false, ↓reduceIte]
  · simp only [kc5, sS_app, Nat.reduceEqDiff, false_and, ↓reduceIte]
  · simp only [kc6, sS_app, Nat.reduceEqDiff, false_and, ↓reduceIte]
  · rfl
theorem kw_into {W : kW} {h : xH} {c : mS} (ok : kOk W h) {j : Nat} (h1 : 1 ≤ j) (h2 : j < 4) (v : Int32) : xwr (kPut W h c) (kg W 2 j) 2 15 (.int v) = some (kPut W h (sS c 27 j v)) := by
  rw [xwr_of (xat_kPut ok (kDom2 h1 h2)) (Nat.le_of_ble_eq_true rfl), show (Sum.inr (2, List.set _ 15 (.int v)) : va_E) = kCell W (sS c 27 j v) (2, j) from ?_, kPut_set ok (kDom2 h1 h2) (ke_into _)]
  simp only [kCell, kc2, List.set_cons_succ, List.set_cons_zero, sS_app, Nat.reduceEqDiff, false_and, and_self, ↓reduceIte]
theorem kr_calls {W : kW} {h : xH} {c : mS} (ok : kOk W h) {j : Nat} (h1 : 1 ≤ j) (h2 : j < 4) : rdI (kPut W h c) (kg W 2 j) 2 16 = some (c 28 j) := rdI_of (xat_kPut ok (kDom2 h1 h2)) rfl
theorem ke_calls {W : kW} {c : mS} {j : Nat} (v : Int32) : ∀ d, d ≠ (2, j) → kCell W (sS c 28 j v) d = kCell W c d := by
  intro d hd
  obtain ⟨f, i⟩ := d
  unfold kCell
  split
  · unfold kc0; split <;> simp only [sS_app, sS_fn, Nat.reduceEqDiff, false_and, ↓reduceIte, ne_eq, not_false_eq_true]
  · simp only [kc1, sS_app, Nat.reduceEqDiff, false_and, ↓reduceIte]
  · rename_i hq
    have hi : i ≠ j := fun w => hd (by rw [w, show f = 2 from hq])
    simp only [kc2, sS_app, hi, Nat.reduceEqDiff, false_and, and_false, ↓reduceIte]
  · simp only [kc5, sS_app, Nat.reduceEqDiff, false_and, ↓reduceIte]
  · simp only [kc6, sS_app, Nat.reduceEqDiff, false_and, ↓reduceIte]
  · rfl
theorem kw_calls {W : kW} {h : xH} {c : mS} (ok : kOk W h) {j : Nat} (h1 : 1 ≤ j) (h2 : j < 4) (v : Int32) : xwr (kPut W h c) (kg W 2 j) 2 16 (.int v) = some (kPut W h (sS c 28 j v)) := by
  rw [xwr_of (xat_kPut ok (kDom2 h1 h2)) (Nat.le_of_ble_eq_true rfl), show (Sum.inr (2, List.set _ 16 (.int v)) : va_E) = kCell W (sS c 28 j v) (2, j) from ?_, kPut_set ok (kDom2 h1 h2) (ke_calls _)]
  simp only [kCell, kc2, List.set_cons_succ, List.set_cons_zero, sS_app, Nat.reduceEqDiff, false_and, and_self, ↓reduceIte]
theorem kr_asker {W : kW} {h : xH} {c : mS} (ok : kOk W h) {j : Nat} (h1 : 1 ≤ j) (h2 : j < 4) : rdR (kPut W h c) (kg W 2 j) 2 17 = some (kRL W (c 29 j)) := rdR_of (xat_kPut ok (kDom2 h1 h2)) rfl
theorem ke_asker {W : kW} {c : mS} {j : Nat} (v : Int32) : ∀ d, d ≠ (2, j) → kCell W (sS c 29 j v) d = kCell W c d := by
  intro d hd
  obtain ⟨f, i⟩ := d
  unfold kCell
  split
  · unfold kc0; split <;> simp only [sS_app, sS_fn, Nat.reduceEqDiff, false_and, ↓reduceIte, ne_eq, not_false_eq_true]
  · simp only [kc1, sS_app, Nat.reduceEqDiff, false_and, ↓reduceIte]
  · rename_i hq
    have hi : i ≠ j := fun w => hd (by rw [w, show f = 2 from hq])
    simp only [kc2, sS_app, hi, Nat.reduceEqDiff, false_and, and_false, ↓reduceIte]
  · simp only [kc5, sS_app, Nat.reduceEqDiff, false_and, ↓reduceIte]
  · simp only [kc6, sS_app, Nat.reduceEqDiff, false_and, ↓reduceIte]
  · rfl
theorem kw_asker {W : kW} {h : xH} {c : mS} (ok : kOk W h) {j : Nat} (h1 : 1 ≤ j) (h2 : j < 4) (v : Int32) : xwr (kPut W h c) (kg W 2 j) 2 17 (va_rf (kRL W v)) = some (kPut W h (sS c 29 j v)) := by
  rw [xwr_of (xat_kPut ok (kDom2 h1 h2)) (Nat.le_of_ble_eq_true rfl), show (Sum.inr (2, List.set _ 17 (va_rf (kRL W v))) : va_E) = kCell W (sS c 29 j v) (2, j) from ?_, kPut_set ok (kDom2 h1 h2) (ke_asker _)]
  simp only [kCell, kc2, List.set_cons_succ, List.set_cons_zero, sS_app, Nat.reduceEqDiff, false_and, and_self, ↓reduceIte]
theorem kr_askersCall {W : kW} {h : xH} {c : mS} (ok : kOk W h) {j : Nat} (h1 : 1 ≤ j) (h2 : j < 4) : rdI (kPut W h c) (kg W 2 j) 2 18 = some (c 30 j) := rdI_of (xat_kPut ok (kDom2 h1 h2)) rfl
theorem ke_askersCall {W : kW} {c : mS} {j : Nat} (v : Int32) : ∀ d, d ≠ (2, j) → kCell W (sS c 30 j v) d = kCell W c d := by
  intro d hd
  obtain ⟨f, i⟩ := d
  unfold kCell
  split
  · unfold kc0; split <;> simp only [sS_app, sS_fn, Nat.reduceEqDiff, false_and, ↓reduceIte, ne_eq, not_false_eq_true]
  · simp only [kc1, sS_app, Nat.reduceEqDiff, false_and, ↓reduceIte]
  · rename_i hq
    have hi : i ≠ j := fun w => hd (by rw [w, show f = 2 from hq])
    simp only [kc2, sS_app, hi, Nat.reduceEqDiff, false_and, and_false, ↓reduceIte]
  · simp only [kc5, sS_app, Nat.reduceEqDiff, false_and, ↓reduceIte]
  · simp only [kc6, sS_app, Nat.reduceEqDiff, false_and, ↓reduceIte]
  · rfl
theorem kw_askersCall {W : kW} {h : xH} {c : mS} (ok : kOk W h) {j : Nat} (h1 : 1 ≤ j) (h2 : j < 4) (v : Int32) : xwr (kPut W h c) (kg W 2 j) 2 18 (.int v) = some (kPut W h (sS c 30 j v)) := by
  rw [xwr_of (xat_kPut ok (kDom2 h1 h2)) (Nat.le_of_ble_eq_true rfl), show (Sum.inr (2, List.set _ 18 (.int v)) : va_E) = kCell W (sS c 30 j v) (2, j) from ?_, kPut_set ok (kDom2 h1 h2) (ke_askersCall _)]
  simp only [kCell, kc2, List.set_cons_succ, List.set_cons_zero, sS_app, Nat.reduceEqDiff, false_and, and_self, ↓reduceIte]
theorem kr_kind {W : kW} {h : xH} {c : mS} (ok : kOk W h) {j : Nat} (hj : j < kT W) : rdI (kPut W h c) (kg W 5 j) 5 0 = some (c 1 j) := rdI_of (xat_kPut ok (kDom5 hj)) rfl
theorem kr_size {W : kW} {h : xH} {c : mS} (ok : kOk W h) {j : Nat} (hj : j < kT W) : rdI (kPut W h c) (kg W 5 j) 5 1 = some (c 2 j) := rdI_of (xat_kPut ok (kDom5 hj)) rfl
theorem kr_server {W : kW} {h : xH} {c : mS} (ok : kOk W h) {j : Nat} (hj : j < kT W) : rdI (kPut W h c) (kg W 5 j) 5 2 = some (kSrv j) := rdI_of (xat_kPut ok (kDom5 hj)) rfl
theorem kr_slots {W : kW} {h : xH} {c : mS} (ok : kOk W h) {j : Nat} (hj : j < kT W) : rdR (kPut W h c) (kg W 5 j) 5 3 = some (some (kg W 6 j)) := rdR_of (xat_kPut ok (kDom5 hj)) rfl
theorem kr_number {W : kW} {h : xH} {c : mS} (ok : kOk W h) {j : Nat} (hj : j < kT W) : rdI (kPut W h c) (kg W 5 j) 5 4 = some (kNum j) := rdI_of (xat_kPut ok (kDom5 hj)) rfl
theorem kr_used {W : kW} {h : xH} {c : mS} (ok : kOk W h) {j : Nat} (hj : j < kT W) : rdI (kPut W h c) (kg W 5 j) 5 5 = some (c 3 j) := rdI_of (xat_kPut ok (kDom5 hj)) rfl
theorem ke_used {W : kW} {c : mS} {j : Nat} (v : Int32) : ∀ d, d ≠ (5, j) → kCell W (sS c 3 j v) d = kCell W c d := by
  intro d hd
  obtain ⟨f, i⟩ := d
  unfold kCell
  split
  · unfold kc0; split <;> simp only [sS_app, sS_fn, Nat.reduceEqDiff, false_and, ↓reduceIte, ne_eq, not_false_eq_true]
  · simp only [kc1, sS_app, Nat.reduceEqDiff, false_and, ↓reduceIte]
  · simp only [kc2, sS_app, Nat.reduceEqDiff, false_and, ↓reduceIte]
  · rename_i hq
    have hi : i ≠ j := fun w => hd (by rw [w, show f = 5 from hq])
    simp only [kc5, sS_app, hi, Nat.reduceEqDiff, false_and, and_false, ↓reduceIte]
  · simp only [kc6, sS_app, Nat.reduceEqDiff, false_and, ↓reduceIte]
  · rfl
theorem kw_used {W : kW} {h : xH} {c : mS} (ok : kOk W h) {j : Nat} (hj : j < kT W) (v : Int32) : xwr (kPut W h c) (kg W 5 j) 5 5 (.int v) = some (kPut W h (sS c 3 j v)) := by
  rw [xwr_of (xat_kPut ok (kDom5 hj)) (Nat.le_of_ble_eq_true rfl), show (Sum.inr (5, List.set _ 5 (.int v)) : va_E) = kCell W (sS c 3 j v) (5, j) from ?_, kPut_set ok (kDom5 hj) (ke_used _)]
  simp only [kCell, kc5, List.set_cons_succ, List.set_cons_zero, sS_app, Nat.reduceEqDiff, false_and, and_self, ↓reduceIte]
theorem kr_bits {W : kW} {h : xH} {c : mS} (ok : kOk W h) {j : Nat} (hj : j < kT W) : rdI (kPut W h c) (kg W 5 j) 5 6 = some (c 4 j) := rdI_of (xat_kPut ok (kDom5 hj)) rfl
theorem ke_bits {W : kW} {c : mS} {j : Nat} (v : Int32) : ∀ d, d ≠ (5, j) → kCell W (sS c 4 j v) d = kCell W c d := by
  intro d hd
  obtain ⟨f, i⟩ := d
  unfold kCell
  split
  · unfold kc0; split <;> simp only [sS_app, sS_fn, Nat.reduceEqDiff, false_and, ↓reduceIte, ne_eq, not_false_eq_true]
  · simp only [kc1, sS_app, Nat.reduceEqDiff, false_and, ↓reduceIte]
  · simp only [kc2, sS_app, Nat.reduceEqDiff, false_and, ↓reduceIte]
  · rename_i hq
    have hi : i ≠ j := fun w => hd (by rw [w, show f = 5 from hq])
    simp only [kc5, sS_app, hi, Nat.reduceEqDiff, false_and, and_false, ↓reduceIte]
  · simp only [kc6, sS_app, Nat.reduceEqDiff, false_and, ↓reduceIte]
  · rfl
theorem kw_bits {W : kW} {h : xH} {c : mS} (ok : kOk W h) {j : Nat} (hj : j < kT W) (v : Int32) : xwr (kPut W h c) (kg W 5 j) 5 6 (.int v) = some (kPut W h (sS c 4 j v)) := by
  rw [xwr_of (xat_kPut ok (kDom5 hj)) (Nat.le_of_ble_eq_true rfl), show (Sum.inr (5, List.set _ 6 (.int v)) : va_E) = kCell W (sS c 4 j v) (5, j) from ?_, kPut_set ok (kDom5 hj) (ke_bits _)]
  simp only [kCell, kc5, List.set_cons_succ, List.set_cons_zero, sS_app, Nat.reduceEqDiff, false_and, and_self, ↓reduceIte]
theorem kr_holders {W : kW} {h : xH} {c : mS} (ok : kOk W h) {j : Nat} (hj : j < kT W) : rdI (kPut W h c) (kg W 5 j) 5 7 = some (c 61 j) := rdI_of (xat_kPut ok (kDom5 hj)) rfl
theorem ke_holders {W : kW} {c : mS} {j : Nat} (v : Int32) : ∀ d, d ≠ (5, j) → kCell W (sS c 61 j v) d = kCell W c d := by
  intro d hd
  obtain ⟨f, i⟩ := d
  unfold kCell
  split
  · unfold kc0; split <;> simp only [sS_app, sS_fn, Nat.reduceEqDiff, false_and, ↓reduceIte, ne_eq, not_false_eq_true]
  · simp only [kc1, sS_app, Nat.reduceEqDiff, false_and, ↓reduceIte]
  · simp only [kc2, sS_app, Nat.reduceEqDiff, false_and, ↓reduceIte]
  · rename_i hq
    have hi : i ≠ j := fun w => hd (by rw [w, show f = 5 from hq])
    simp only [kc5, sS_app, hi, Nat.reduceEqDiff, false_and, and_false, ↓reduceIte]
  · simp only [kc6, sS_app, Nat.reduceEqDiff, false_and, ↓reduceIte]
  · rfl
theorem kw_holders {W : kW} {h : xH} {c : mS} (ok : kOk W h) {j : Nat} (hj : j < kT W) (v : Int32) : xwr (kPut W h c) (kg W 5 j) 5 7 (.int v) = some (kPut W h (sS c 61 j v)) := by
  rw [xwr_of (xat_kPut ok (kDom5 hj)) (Nat.le_of_ble_eq_true rfl), show (Sum.inr (5, List.set _ 7 (.int v)) : va_E) = kCell W (sS c 61 j v) (5, j) from ?_, kPut_set ok (kDom5 hj) (ke_holders _)]
  simp only [kCell, kc5, List.set_cons_succ, List.set_cons_zero, sS_app, Nat.reduceEqDiff, false_and, and_self, ↓reduceIte]
theorem kr_madeOfIt {W : kW} {h : xH} {c : mS} (ok : kOk W h) {j : Nat} (hj : j < kT W) : rdI (kPut W h c) (kg W 5 j) 5 8 = some (c 62 j) := rdI_of (xat_kPut ok (kDom5 hj)) rfl
theorem ke_madeOfIt {W : kW} {c : mS} {j : Nat} (v : Int32) : ∀ d, d ≠ (5, j) → kCell W (sS c 62 j v) d = kCell W c d := by
  intro d hd
  obtain ⟨f, i⟩ := d
  unfold kCell
  split
  · unfold kc0; split <;> simp only [sS_app, sS_fn, Nat.reduceEqDiff, false_and, ↓reduceIte, ne_eq, not_false_eq_true]
  · simp only [kc1, sS_app, Nat.reduceEqDiff, false_and, ↓reduceIte]
  · simp only [kc2, sS_app, Nat.reduceEqDiff, false_and, ↓reduceIte]
  · rename_i hq
    have hi : i ≠ j := fun w => hd (by rw [w, show f = 5 from hq])
    simp only [kc5, sS_app, hi, Nat.reduceEqDiff, false_and, and_false, ↓reduceIte]
  · simp only [kc6, sS_app, Nat.reduceEqDiff, false_and, ↓reduceIte]
  · rfl
theorem kw_madeOfIt {W : kW} {h : xH} {c : mS} (ok : kOk W h) {j : Nat} (hj : j < kT W) (v : Int32) : xwr (kPut W h c) (kg W 5 j) 5 8 (.int v) = some (kPut W h (sS c 62 j v)) := by
  rw [xwr_of (xat_kPut ok (kDom5 hj)) (Nat.le_of_ble_eq_true rfl), show (Sum.inr (5, List.set _ 8 (.int v)) : va_E) = kCell W (sS c 62 j v) (5, j) from ?_, kPut_set ok (kDom5 hj) (ke_madeOfIt _)]
  simp only [kCell, kc5, List.set_cons_succ, List.set_cons_zero, sS_app, Nat.reduceEqDiff, false_and, and_self, ↓reduceIte]
theorem kr_tgone {W : kW} {h : xH} {c : mS} (ok : kOk W h) {j : Nat} (hj : j < kT W) : rdI (kPut W h c) (kg W 5 j) 5 9 = some (kG (c 6 j)) := rdI_of (xat_kPut ok (kDom5 hj)) rfl
theorem ke_tgone {W : kW} {c : mS} {j : Nat} (v : Int32) : ∀ d, d ≠ (5, j) → kCell W (sS c 6 j v) d = kCell W c d := by
  intro d hd
  obtain ⟨f, i⟩ := d
  unfold kCell
  split
  · unfold kc0; split <;> simp only [sS_app, sS_fn, Nat.reduceEqDiff, false_and, ↓reduceIte, ne_eq, not_false_eq_true]
  · simp only [kc1, sS_app, Nat.reduceEqDiff, false_and, ↓reduceIte]
  · simp only [kc2, sS_app, Nat.reduceEqDiff, false_and, ↓reduceIte]
  · rename_i hq
    have hi : i ≠ j := fun w => hd (by rw [w, show f = 5 from hq])
    simp only [kc5, sS_app, hi, Nat.reduceEqDiff, false_and, and_false, ↓reduceIte]
  · simp only [kc6, sS_app, Nat.reduceEqDiff, false_and, ↓reduceIte]
  · rfl
theorem kw_tgone {W : kW} {h : xH} {c : mS} (ok : kOk W h) {j : Nat} (hj : j < kT W) (v : Int32) : xwr (kPut W h c) (kg W 5 j) 5 9 (.int (kG v)) = some (kPut W h (sS c 6 j v)) := by
  rw [xwr_of (xat_kPut ok (kDom5 hj)) (Nat.le_of_ble_eq_true rfl), show (Sum.inr (5, List.set _ 9 (.int (kG v))) : va_E) = kCell W (sS c 6 j v) (5, j) from ?_, kPut_set ok (kDom5 hj) (ke_tgone _)]
  simp only [kCell, kc5, List.set_cons_succ, List.set_cons_zero, sS_app, Nat.reduceEqDiff, false_and, and_self, ↓reduceIte]
theorem kr_madeOf {W : kW} {h : xH} {c : mS} (ok : kOk W h) {j : Nat} (hj : j < kT W) : rdR (kPut W h c) (kg W 5 j) 5 10 = some (kRO W (c 5 j)) := rdR_of (xat_kPut ok (kDom5 hj)) rfl
theorem kr_clients {W : kW} {h : xH} {c : mS} (ok : kOk W h) : rdR (kPut W h c) (kg W 0 0) 0 0 = some (some (kg W 0 1)) := rdR_of (xat_kPut ok (kDom0 (j := 0) (by decide))) rfl
theorem kr_filesEndpoint {W : kW} {h : xH} {c : mS} (ok : kOk W h) : rdR (kPut W h c) (kg W 0 0) 0 1 = some (some (kg W 5 1)) := rdR_of (xat_kPut ok (kDom0 (j := 0) (by decide))) rfl
theorem kr_fileServer {W : kW} {h : xH} {c : mS} (ok : kOk W h) : rdR (kPut W h c) (kg W 0 0) 0 2 = some (some (kg W 0 4)) := rdR_of (xat_kPut ok (kDom0 (j := 0) (by decide))) rfl
theorem kr_kmade {W : kW} {h : xH} {c : mS} (ok : kOk W h) : rdI (kPut W h c) (kg W 0 0) 0 3 = some (c 69 0) := rdI_of (xat_kPut ok (kDom0 (j := 0) (by decide))) rfl
theorem ke_kmade {W : kW} {c : mS} (v : Int32) : ∀ d, d ≠ (0, 0) → kCell W (sS c 69 0 v) d = kCell W c d := by
  intro d hd
  obtain ⟨f, i⟩ := d
  unfold kCell
  split
  · rename_i hq
    have hi : i ≠ 0 := fun w => hd (by rw [w, show f = 0 from hq])
    unfold kc0; split <;> first | (rename_i w; exact absurd w hi) | simp only [sS_app, sS_fn, Nat.reduceEqDiff, false_and, ↓reduceIte, ne_eq, not_false_eq_true]
  · simp only [kc1, sS_app, Nat.reduceEqDiff, false_and, ↓reduceIte]
  · simp only [kc2, sS_app, Nat.reduceEqDiff, false_and, ↓reduceIte]
  · simp only [kc5, sS_app, Nat.reduceEqDiff, false_and, ↓reduceIte]
  · simp only [kc6, sS_app, Nat.reduceEqDiff, false_and, ↓reduceIte]
  · rfl
theorem kw_kmade {W : kW} {h : xH} {c : mS} (ok : kOk W h) (v : Int32) : xwr (kPut W h c) (kg W 0 0) 0 3 (.int v) = some (kPut W h (sS c 69 0 v)) := by
  rw [xwr_of (xat_kPut ok (kDom0 (j := 0) (by decide))) (Nat.le_of_ble_eq_true rfl), show (Sum.inr (0, List.set _ 3 (.int v)) : va_E) = kCell W (sS c 69 0 v) (0, 0) from ?_, kPut_set ok (kDom0 (j := 0) (by decide)) (ke_kmade _)]
  simp only [kCell, kc0, List.set_cons_succ, List.set_cons_zero, sS_app, Nat.reduceEqDiff, false_and, and_self, ↓reduceIte]
theorem kr_stillThere {W : kW} {h : xH} {c : mS} (ok : kOk W h) : rdI (kPut W h c) (kg W 0 0) 0 4 = some (c 68 0) := rdI_of (xat_kPut ok (kDom0 (j := 0) (by decide))) rfl
theorem ke_stillThere {W : kW} {c : mS} (v : Int32) : ∀ d, d ≠ (0, 0) → kCell W (sS c 68 0 v) d = kCell W c d := by
  intro d hd
  obtain ⟨f, i⟩ := d
  unfold kCell
  split
  · rename_i hq
    have hi : i ≠ 0 := fun w => hd (by rw [w, show f = 0 from hq])
    unfold kc0; split <;> first | (rename_i w; exact absurd w hi) | simp only [sS_app, sS_fn, Nat.reduceEqDiff, false_and, ↓reduceIte, ne_eq, not_false_eq_true]
  · simp only [kc1, sS_app, Nat.reduceEqDiff, false_and, ↓reduceIte]
  · simp only [kc2, sS_app, Nat.reduceEqDiff, false_and, ↓reduceIte]
  · simp only [kc5, sS_app, Nat.reduceEqDiff, false_and, ↓reduceIte]
  · simp only [kc6, sS_app, Nat.reduceEqDiff, false_and, ↓reduceIte]
  · rfl
theorem kw_stillThere {W : kW} {h : xH} {c : mS} (ok : kOk W h) (v : Int32) : xwr (kPut W h c) (kg W 0 0) 0 4 (.int v) = some (kPut W h (sS c 68 0 v)) := by
  rw [xwr_of (xat_kPut ok (kDom0 (j := 0) (by decide))) (Nat.le_of_ble_eq_true rfl), show (Sum.inr (0, List.set _ 4 (.int v)) : va_E) = kCell W (sS c 68 0 v) (0, 0) from ?_, kPut_set ok (kDom0 (j := 0) (by decide)) (ke_stillThere _)]
  simp only [kCell, kc0, List.set_cons_succ, List.set_cons_zero, sS_app, Nat.reduceEqDiff, false_and, and_self, ↓reduceIte]
theorem kr_stamps {W : kW} {h : xH} {c : mS} (ok : kOk W h) : rdI (kPut W h c) (kg W 0 0) 0 5 = some (c 31 0) := rdI_of (xat_kPut ok (kDom0 (j := 0) (by decide))) rfl
theorem ke_stamps {W : kW} {c : mS} (v : Int32) : ∀ d, d ≠ (0, 0) → kCell W (sS c 31 0 v) d = kCell W c d := by
  intro d hd
  obtain ⟨f, i⟩ := d
  unfold kCell
  split
  · rename_i hq
    have hi : i ≠ 0 := fun w => hd (by rw [w, show f = 0 from hq])
    unfold kc0; split <;> first | (rename_i w; exact absurd w hi) | simp only [sS_app, sS_fn, Nat.reduceEqDiff, false_and, ↓reduceIte, ne_eq, not_false_eq_true]
  · simp only [kc1, sS_app, Nat.reduceEqDiff, false_and, ↓reduceIte]
  · simp only [kc2, sS_app, Nat.reduceEqDiff, false_and, ↓reduceIte]
  · simp only [kc5, sS_app, Nat.reduceEqDiff, false_and, ↓reduceIte]
  · simp only [kc6, sS_app, Nat.reduceEqDiff, false_and, ↓reduceIte]
  · rfl
theorem kw_stamps {W : kW} {h : xH} {c : mS} (ok : kOk W h) (v : Int32) : xwr (kPut W h c) (kg W 0 0) 0 5 (.int v) = some (kPut W h (sS c 31 0 v)) := by
  rw [xwr_of (xat_kPut ok (kDom0 (j := 0) (by decide))) (Nat.le_of_ble_eq_true rfl), show (Sum.inr (0, List.set _ 5 (.int v)) : va_E) = kCell W (sS c 31 0 v) (0, 0) from ?_, kPut_set ok (kDom0 (j := 0) (by decide)) (ke_stamps _)]
  simp only [kCell, kc0, List.set_cons_succ, List.set_cons_zero, sS_app, Nat.reduceEqDiff, false_and, and_self, ↓reduceIte]
theorem kr_capabilities {W : kW} {h : xH} {c : mS} (ok : kOk W h) : rdR (kPut W h c) (kg W 0 0) 0 6 = some (some (kg W 0 2)) := rdR_of (xat_kPut ok (kDom0 (j := 0) (by decide))) rfl
theorem kr_driver {W : kW} {h : xH} {c : mS} (ok : kOk W h) : rdR (kPut W h c) (kg W 0 4) 4 0 = some (some (kg W 0 5)) := rdR_of (xat_kPut ok (kDom0 (j := 4) (by decide))) rfl
theorem kr_takenA {W : kW} {h : xH} {c : mS} (ok : kOk W h) : rdR (kPut W h c) (kg W 0 4) 4 1 = some (some (kg W 0 7)) := rdR_of (xat_kPut ok (kDom0 (j := 4) (by decide))) rfl
theorem kr_ownersA {W : kW} {h : xH} {c : mS} (ok : kOk W h) : rdR (kPut W h c) (kg W 0 4) 4 2 = some (some (kg W 0 8)) := rdR_of (xat_kPut ok (kDom0 (j := 4) (by decide))) rfl
theorem kr_filesA {W : kW} {h : xH} {c : mS} (ok : kOk W h) : rdR (kPut W h c) (kg W 0 4) 4 3 = some (some (kg W 0 9)) := rdR_of (xat_kPut ok (kDom0 (j := 4) (by decide))) rfl
theorem kr_bufferA {W : kW} {h : xH} {c : mS} (ok : kOk W h) : rdR (kPut W h c) (kg W 0 4) 4 4 = some (some (kg W 0 10)) := rdR_of (xat_kPut ok (kDom0 (j := 4) (by decide))) rfl
theorem kr_disk {W : kW} {h : xH} {c : mS} (ok : kOk W h) : rdR (kPut W h c) (kg W 0 5) 3 0 = some (some (kg W 0 6)) := rdR_of (xat_kPut ok (kDom0 (j := 5) (by decide))) rfl
theorem kr_blocksRead {W : kW} {h : xH} {c : mS} (ok : kOk W h) : rdI (kPut W h c) (kg W 0 5) 3 1 = some (c 36 0) := rdI_of (xat_kPut ok (kDom0 (j := 5) (by decide))) rfl
theorem ke_blocksRead {W : kW} {c : mS} (v : Int32) : ∀ d, d ≠ (0, 5) → kCell W (sS c 36 0 v) d = kCell W c d := by
  intro d hd
  obtain ⟨f, i⟩ := d
  unfold kCell
  split
  · rename_i hq
    have hi : i ≠ 5 := fun w => hd (by rw [w, show f = 0 from hq])
    unfold kc0; split <;> first | (rename_i w; exact absurd w hi) | simp only [sS_app, sS_fn, Nat.reduceEqDiff, false_and, ↓reduceIte, ne_eq, not_false_eq_true]
  · simp only [kc1, sS_app, Nat.reduceEqDiff, false_and, ↓reduceIte]
  · simp only [kc2, sS_app, Nat.reduceEqDiff, false_and, ↓reduceIte]
  · simp only [kc5, sS_app, Nat.reduceEqDiff, false_and, ↓reduceIte]
  · simp only [kc6, sS_app, Nat.reduceEqDiff, false_and, ↓reduceIte]
  · rfl
theorem kw_blocksRead {W : kW} {h : xH} {c : mS} (ok : kOk W h) (v : Int32) : xwr (kPut W h c) (kg W 0 5) 3 1 (.int v) = some (kPut W h (sS c 36 0 v)) := by
  rw [xwr_of (xat_kPut ok (kDom0 (j := 5) (by decide))) (Nat.le_of_ble_eq_true rfl), show (Sum.inr (3, List.set _ 1 (.int v)) : va_E) = kCell W (sS c 36 0 v) (0, 5) from ?_, kPut_set ok (kDom0 (j := 5) (by decide)) (ke_blocksRead _)]
  simp only [kCell, kc0, List.set_cons_succ, List.set_cons_zero, sS_app, Nat.reduceEqDiff, false_and, and_self, ↓reduceIte]
theorem kr_blocksWritten {W : kW} {h : xH} {c : mS} (ok : kOk W h) : rdI (kPut W h c) (kg W 0 5) 3 2 = some (c 37 0) := rdI_of (xat_kPut ok (kDom0 (j := 5) (by decide))) rfl
theorem ke_blocksWritten {W : kW} {c : mS} (v : Int32) : ∀ d, d ≠ (0, 5) → kCell W (sS c 37 0 v) d = kCell W c d := by
  intro d hd
  obtain ⟨f, i⟩ := d
  unfold kCell
  split
  · rename_i hq
    have hi : i ≠ 5 := fun w => hd (by rw [w, show f = 0 from hq])
    unfold kc0; split <;> first | (rename_i w; exact absurd w hi) | simp only [sS_app, sS_fn, Nat.reduceEqDiff, false_and, ↓reduceIte, ne_eq, not_false_eq_true]
  · simp only [kc1, sS_app, Nat.reduceEqDiff, false_and, ↓reduceIte]
  · simp only [kc2, sS_app, Nat.reduceEqDiff, false_and, ↓reduceIte]
  · simp only [kc5, sS_app, Nat.reduceEqDiff, false_and, ↓reduceIte]
  · simp only [kc6, sS_app, Nat.reduceEqDiff, false_and, ↓reduceIte]
  · rfl
theorem kw_blocksWritten {W : kW} {h : xH} {c : mS} (ok : kOk W h) (v : Int32) : xwr (kPut W h c) (kg W 0 5) 3 2 (.int v) = some (kPut W h (sS c 37 0 v)) := by
  rw [xwr_of (xat_kPut ok (kDom0 (j := 5) (by decide))) (Nat.le_of_ble_eq_true rfl), show (Sum.inr (3, List.set _ 2 (.int v)) : va_E) = kCell W (sS c 37 0 v) (0, 5) from ?_, kPut_set ok (kDom0 (j := 5) (by decide)) (ke_blocksWritten _)]
  simp only [kCell, kc0, List.set_cons_succ, List.set_cons_zero, sS_app, Nat.reduceEqDiff, false_and, and_self, ↓reduceIte]
