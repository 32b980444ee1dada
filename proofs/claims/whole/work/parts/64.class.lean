/-! The class's heap: arrays, new cells, throws. -/
section KA
variable {z : xzs} {W : kW} {h : xH} {c : mS}
theorem xaq_kQ {n kd : Nat} {f : Nat → Option Nat} (hk : (xatC kd).isSome = true) : xaq (kQ n f kd) = some (kd, n, f) := by
  unfold kQ xaq
  exact if_pos hk
theorem xaln_kQ {n kd : Nat} {f : Nat → Option Nat} (hk : (xaty[kd]?).isSome = true) : xaln (kQ n f kd) = some (kd, n) := by
  unfold kQ xaln
  exact if_pos hk
theorem rdQ_of {H : xH} {a n kd j : Nat} {f : Nat → Option Nat} (ha : xat H a = some (kQ n f kd)) (hk : (xatC kd).isSome = true) (hj : j < n) (hn : n < 2 ^ 31) : rdQ H a (nI j) = some (f j) := by
  unfold rdQ
  rw [ha]
  simp only [Option.bind_some, xaq_kQ hk, xix_nI hj hn]
theorem xalen_of {H : xH} {a n kd : Nat} {f : Nat → Option Nat} (ha : xat H a = some (kQ n f kd)) (hk : (xaty[kd]?).isSome = true) : xalen H a = some n := by
  unfold xalen
  rw [ha]
  simp only [Option.bind_some, xaln_kQ hk]
theorem xalenI_of {H : xH} {a n kd : Nat} {f : Nat → Int32} (ha : xat H a = some (.inl (kd, n, .inl f))) (hk : (xaty[kd]?).isSome = true) : xalen H a = some n := by
  unfold xalen
  rw [ha]
  have e : xaln (.inl (kd, n, .inl f)) = some (kd, n) := if_pos hk
  rw [Option.bind_some, e]
  rfl
theorem wrQ_of {H : xH} {a n kd j : Nat} {f : Nat → Option Nat} {r : Option Nat} (ha : xat H a = some (kQ n f kd)) (hk : (xatC kd).isSome = true) (hj : j < n) (hn : n < 2 ^ 31) (hr : xelm H kd r = some ()) : wrQ H a (nI j) r = some (xset H a (kQ n (va_up f j r) kd)) := by
  unfold wrQ
  rw [ha]
  simp only [Option.bind_some, xaq_kQ hk, xix_nI hj hn, hr]
  rfl
-- clients
theorem kl_clients (ok : kOk W h) : xalen (kPut W h c) (kg W 0 1) = some 3 := xalen_of (xat_kPut ok (kDom0 (j := 1) (by decide))) rfl
theorem ka_clients (ok : kOk W h) {i : Nat} (hi : i < 3) : rdQ (kPut W h c) (kg W 0 1) (nI i) = some (some (kg W 2 (i + 1))) := rdQ_of (xat_kPut ok (kDom0 (j := 1) (by decide))) rfl hi (by decide)
-- slots
theorem kl_slots (ok : kOk W h) {o : Nat} (ho : o < kT W) : xalen (kPut W h c) (kg W 6 o) = some (if c 1 o = nI 3 then 8 else 0) := xalen_of (xat_kPut ok (kDom6 ho)) rfl
theorem ka_slots (ok : kOk W h) {o i : Nat} (ho : o < kT W) (hk : c 1 o = nI 3) (hi : i < 8) : rdQ (kPut W h c) (kg W 6 o) (nI i) = some (kRC W (c 14 (8 * o + i))) := by
  have q := xat_kPut (c := c) ok (kDom6 ho)
  have e : kCell W c (6, o) = kQ 8 (fun i => if i < 8 then kRC W (c 14 (8 * o + i)) else none) 2 := by
    show kc6 W c o = _
    unfold kc6
    rw [if_pos hk]
  rw [e] at q
  have r := rdQ_of (j := i) q rfl hi (by decide)
  rw [if_pos hi] at r
  exact r
def kCok (W : kW) (x : Int32) : Prop := x = 0 ∨ ∃ j, 1 ≤ j ∧ j ≤ kC W ∧ x = nI j ∧ j < 2 ^ 31
theorem kelm (ok : kOk W h) {x : Int32} (hx : kCok W x) : xelm (kPut W h c) 2 (kRC W x) = some () := by
  rcases hx with e | ⟨j, h1, h2, e, h3⟩
  · rw [kRC, if_pos e]
    rfl
  · rw [kRC, if_neg (by rw [e]; exact nI_ne0 (by omega) h3), e, vN_nI h3]
    show (xat (kPut W h c) (kg W 1 j)).bind _ = _
    rw [xat_kPut ok (kDom1 h1 h2)]
    rfl
theorem kw_slots (ok : kOk W h) {o i : Nat} (ho : o < kT W) (hk : c 1 o = nI 3) (hi : i < 8) {x : Int32} (hx : kCok W x) : wrQ (kPut W h c) (kg W 6 o) (nI i) (kRC W x) = some (kPut W h (sS c 14 (8 * o + i) x)) := by
  have q := xat_kPut (c := c) ok (kDom6 ho)
  have e : kCell W c (6, o) = kQ 8 (fun i => if i < 8 then kRC W (c 14 (8 * o + i)) else none) 2 := by
    show kc6 W c o = _
    unfold kc6
    rw [if_pos hk]
  rw [e] at q
  rw [wrQ_of q rfl hi (by decide) (kelm ok hx), show kQ 8 (va_up (fun i => if i < 8 then kRC W (c 14 (8 * o + i)) else none) i (kRC W x)) 2 = kCell W (sS c 14 (8 * o + i) x) (6, o) from ?_, kPut_set ok (kDom6 ho)]
  · intro d hd
    obtain ⟨f, u⟩ := d
    unfold kCell
    split
    · unfold kc0; split <;> simp only [sS_app, sS_fn, Nat.reduceEqDiff, false_and, ↓reduceIte, ne_eq, not_false_eq_true]
    · simp only [kc1, sS_app, Nat.reduceEqDiff, false_and, ↓reduceIte]
    · simp only [kc2, sS_app, Nat.reduceEqDiff, false_and, ↓reduceIte]
    · simp only [kc5, sS_app, Nat.reduceEqDiff, false_and, ↓reduceIte]
    · rename_i hq
      have hu : u ≠ o := fun w => hd (by rw [w, show f = 6 from hq])
      simp only [kc6, sS_app, Nat.reduceEqDiff, false_and, ↓reduceIte, true_and]
      congr 1
      funext v
      by_cases w : v < 8
      · rw [if_pos w, if_pos w, if_neg (by omega)]
      · rw [if_neg w, if_neg w]
    · rfl
  · show _ = kc6 W _ o
    unfold kc6
    rw [show sS c 14 (8 * o + i) x 1 o = nI 3 from hk, if_pos rfl]
    congr 1
    funext u
    show (if u = i then _ else _) = (if u < 8 then kRC W (if 14 = 14 ∧ 8 * o + u = 8 * o + i then x else _) else _)
    by_cases w : u = i
    · rw [if_pos w, if_pos (by omega), if_pos ⟨rfl, by omega⟩]
    · rw [if_neg w, if_neg (show ¬ (14 = 14 ∧ 8 * o + u = 8 * o + i) by omega)]
end KA
