/-! The class: a capability leaves the list. -/
section KK
variable {z : xzs} {W : kW} {h : xH} {c : mS}
theorem ke_70 {c' : mS} (hc : ∀ f, f ≠ 70 → c' f = c f) : ∀ d, d ≠ (0, 3) → kCell W c' d = kCell W c d := by
  intro d hd
  obtain ⟨f, i⟩ := d
  unfold kCell
  split
  · rename_i hq
    have hi : i ≠ 3 := fun w => hd (by rw [w, show f = 0 from hq])
    unfold kc0; split <;> first | (rename_i w; exact absurd w hi) | simp only [hc 69 (by decide), hc 68 (by decide), hc 31 (by decide), hc 71 (by decide), hc 72 (by decide), hc 36 (by decide), hc 37 (by decide), hc 35 (by decide), hc 73 (by decide), hc 74 (by decide), hc 75 (by decide), hc 76 (by decide)]
  · simp only [kc1, hc 8 (by decide), hc 9 (by decide), hc 10 (by decide), hc 11 (by decide), hc 12 (by decide), hc 64 (by decide), hc 65 (by decide)]
  · simp only [kc2, hc 15 (by decide), hc 16 (by decide), hc 17 (by decide), hc 18 (by decide), hc 19 (by decide), hc 20 (by decide), hc 21 (by decide), hc 23 (by decide), hc 24 (by decide), hc 25 (by decide), hc 26 (by decide), hc 27 (by decide), hc 28 (by decide), hc 29 (by decide), hc 30 (by decide), hc 52 (by decide), hc 56 (by decide)]
  · simp only [kc5, hc 1 (by decide), hc 2 (by decide), hc 3 (by decide), hc 4 (by decide), hc 5 (by decide), hc 6 (by decide), hc 61 (by decide), hc 62 (by decide)]
  · simp only [kc6, hc 1 (by decide), hc 14 (by decide)]
  · rfl
def kShift (c : mS) (n i : Nat) : mS := fun f u => if f = 70 then (if u = n - 1 then 0 else if i ≤ u ∧ u < n - 1 then c 70 (u + 1) else c 70 u) else c f u
def kRem (c : mS) (n i : Nat) : mS := sS (sS (kShift c n i) 72 0 (c 72 0 + 1)) 71 0 (c 71 0 - 1)
theorem t_A_remove (ok : kOk W h) {n i : Nat} (hl : kLs W c n) (hC : kC W < 1200) (hi : i < n) : f_A_remove z [.ref (kg W 0 2), .int (nI i)] (kPut W h c) = some (.inl (some (va_rf (kRC W (c 70 i)))), kPut W h (kRem c n i)) := by
  obtain ⟨l1, l2, l3, l4, l5, l6⟩ := hl
  have q3 : xat (kPut W h c) (kg W 0 3) = some (kQ (kcap W) (fun i => kRC W (c 70 i)) 4) := xat_kPut (c := c) ok (kDom0 (W := W) (j := 3) (by decide))
  show ((xlist (kPut W h c) (kg W 0 2)).bind fun q => _) = _
  rw [kr_lst ok, Option.bind_some]
  have hc : vN (c 71 0) = n := by rw [l1]; exact vN_nI (by omega)
  have hc : (c 71 0).toNatClampNeg = n := hc
  have hi2 : (nI i).toNatClampNeg = i := nI_clamp (by omega)
  show (if nI i < 0 ∨ c 71 0 ≤ nI i then none else ((xat (kPut W h c) (kg W 0 3)).bind fun ed => _)) = _
  rw [if_neg (by rw [l1]; rintro (w | w); exact nI_pos (by omega) w; exact nI_ge hi (by omega) w), q3, Option.bind_some, xaq_kQ rfl, Option.bind_some]
  show (if 4 = 4 ∧ (c 71 0).toNatClampNeg ≤ kcap W ∧ kcap W ≤ 100000 then (if (List.range (c 71 0).toNatClampNeg).all _ = true then _ else _) else _) = _
  rw [hc, if_pos ⟨rfl, l2, by omega⟩, if_pos, hi2]
  · have e : xobs (va_up (va_cpy (fun i => kRC W (c 70 i)) (fun i => kRC W (c 70 i)) (i + 1) i (n - 1 - i)) (n - 1) none) (kcap W) = kCell W (kShift c n i) (0, 3) := by
      rw [xobs_k]
      show _ = kQ (kcap W) (fun u => kRC W (kShift c n i 70 u)) 4
      congr 1
      funext u
      have ev : kShift c n i 70 u = if u = n - 1 then 0 else if i ≤ u ∧ u < n - 1 then c 70 (u + 1) else c 70 u := if_pos rfl
      rw [ev]
      show (if u = n - 1 then none else va_cpy (fun i => kRC W (c 70 i)) (fun i => kRC W (c 70 i)) (i + 1) i (n - 1 - i) u) = _
      by_cases u1 : u = n - 1
      · rw [if_pos u1, if_pos u1, kRC_0]
      · rw [if_neg u1, if_neg u1]
        by_cases u2 : i ≤ u ∧ u < n - 1
        · rw [if_pos u2, pk_cpy_in u2.1 (by omega), show i + 1 + (u - i) = u + 1 by omega]
        · rw [if_neg u2, pk_cpy_out (by omega)]
    show some (_, xlset (xset (kPut W h c) (kg W 0 3) _) (kg W 0 2) (kg W 0 3) (c 72 0 + 1) (c 71 0 - 1)) = _
    rw [e, kPut_set ok (kDom0 (by decide)) (ke_70 (fun f hf => by funext u; exact if_neg hf)), k_lset ok]
    rfl
  · rw [List.all_eq_true]
    intro u hu
    have hu : u < n := List.mem_range.mp hu
    obtain ⟨⟨p1, p2⟩, p3⟩ := l5 u hu
    show (match kRC W (c 70 u) with | some y => (xisO (kPut W h c) y 1).isSome | none => true) = true
    rw [p1, kRC_n p3 (by omega)]
    show (xisO (kPut W h c) (kg W 1 (vN (c 70 u))) 1).isSome = true
    rw [kisC ok p3 (by omega)]
    rfl
/-- the loop of unlist, from the end: m entries are still to be seen -/
def kUn (j : Nat) : Nat → Nat → mS → mS
  | 0, _, c => c
  | m + 1, n, c => if c 70 m = nI j then kUn j m (n - 1) (kRem c n m) else if c 11 (vN (c 70 m)) = nI j then kUn j m n (sS c 11 (vN (c 70 m)) (c 11 j)) else kUn j m n c
theorem kD_s (m : Nat) : nI (m + 1) - 1 = nI m := nI_pred m
theorem kD_m (m : Nat) : nI m + (-1) = nI m - 1 := by
  cases m with
  | zero => decide
  | succ m => rw [pk_m1, nI_pred]
theorem kRC_eq (ok : kOk W h) (hC : kC W < 1200) {x : Int32} {j : Nat} (h1 : 1 ≤ j) (h2 : j ≤ kC W) (hx : isN x (kC W + 1)) : kRC W x = some (kg W 1 j) ↔ x = nI j := by
  obtain ⟨x1, x2⟩ := hx
  by_cases e : vN x = 0
  · have : x = 0 := by rw [x1, e, nI_0]
    rw [this, kRC_0]
    constructor
    · intro w
      cases w
    · intro w
      exact absurd w.symm (nI_ne0 h1 (by omega))
  · rw [x1, kRC_n (by omega) (by omega)]
    constructor
    · intro w
      rw [(kg_inj1 ok (by omega) (by omega) h1 h2).mp (Option.some.inj w)]
    · intro w
      have := (nI_eq (a := vN x) (b := j) (by omega) (by omega)).mp w
      rw [this]
theorem kcst (ok : kOk W h) {j : Nat} (h1 : 1 ≤ j) (h2 : j ≤ kC W) : xcst (kPut W h c) 1 (some (kg W 1 j)) = some () := by
  show (xat (kPut W h c) (kg W 1 j)).bind _ = _
  rw [xat_kPut ok (kDom1 h1 h2)]
  rfl
/-- what the loop keeps to -/
def kUP (W : kW) (c : mS) (n : Nat) : Prop := kLs W c n ∧ ∀ k, 1 ≤ k → k ≤ kC W → isN (c 11 k) k
theorem kUP_rem {n : Nat} (U : kUP W c n) {m : Nat} (hm : m < n) : kUP W (kRem c n m) (n - 1) := by
  obtain ⟨⟨l1, l2, l3, l4, l5, l6⟩, u2⟩ := U
  have e70 : ∀ u, kRem c n m 70 u = if u = n - 1 then 0 else if m ≤ u ∧ u < n - 1 then c 70 (u + 1) else c 70 u := fun u => by
    simp only [kRem, sS_app, Nat.reduceEqDiff, false_and, ↓reduceIte, kShift]
  refine ⟨⟨?_, by omega, l3, l4, fun i hi => ?_, fun i hi => ?_⟩, u2⟩
  · have : kRem c n m 71 0 = c 71 0 - 1 := by simp only [kRem, sS_app, and_self, ↓reduceIte]
    rw [this, l1, show n = n - 1 + 1 by omega, nI_pred]
    rfl
  · rw [e70, if_neg (by omega)]
    split
    · exact l5 _ (by omega)
    · exact l5 _ (by omega)
  · rw [e70]
    by_cases w : i = n - 1
    · rw [if_pos w]
    · rw [if_neg w, if_neg (by omega)]
      exact l6 i (by omega)
theorem t_unl (ok : kOk W h) (hC : kC W < 1200) {j : Nat} (h1 : 1 ≤ j) (h2 : j ≤ kC W) : ∀ (m n : Nat) (c : mS), m ≤ n → kUP W c n → B_K_unlist_10 z (kg W 0 0) (some (kg W 1 j)) (nI m - 1) (kPut W h c) = some (.inl none, kPut W h (kUn j m n c))
  | 0, n, c, _, _ => by
    refine E_K_unlist_10 z _ _ _ _ _ ?_
    unfold D_K_unlist_10
    rw [if_pos (by decide)]
    rfl
  | m + 1, n, c, hm, U => by
    obtain ⟨hl, hp⟩ := U
    refine E_K_unlist_10 z _ _ _ _ _ ?_
    have hcap : n ≤ 40000 := by have := hl.2.1; have := hl.2.2.2.1; omega
    unfold D_K_unlist_10 kUn
    rw [nI_pred, if_neg (nI_pos (by omega)), kr_capabilities ok, Option.bind_some, Option.bind_some, kisA ok, Option.bind_some, t_A_get ok hl (by omega), xclR_some]
    obtain ⟨⟨p1, p2⟩, p3⟩ := hl.2.2.2.2.1 m (by omega)
    have e1 : kRC W (c 70 m) = some (kg W 1 (vN (c 70 m))) := by rw [kRC, if_neg (by rw [p1]; exact nI_ne0 p3 (by omega))]
    have n59 : ∀ n' c', m ≤ n' → kUP W c' n' → B_K_unlist_59 z (kg W 0 0) (some (kg W 1 j)) (nI m) (kPut W h c') = some (.inl none, kPut W h (kUn j m n' c')) := by
      intro n' c' hm' U'
      refine E_K_unlist_59 z _ _ _ _ _ ?_
      unfold D_K_unlist_59
      rw [ic_m1, kD_m]
      exact t_unl ok hC h1 h2 m n' c' hm' U'
    rw [e1, kcst ok p3 (by omega), Option.bind_some]
    have q := kRC_eq (x := c 70 m) ok hC h1 h2 ⟨p1, p2⟩
    rw [e1] at q
    by_cases k1 : c 70 m = nI j
    · rw [if_pos (q.mpr k1), if_pos k1, kr_capabilities ok, Option.bind_some, Option.bind_some, kisA ok, Option.bind_some, t_A_remove ok hl hC (by omega), xclR_some]
      exact n59 _ _ (by omega) (kUP_rem ⟨hl, hp⟩ (by omega))
    · rw [if_neg (fun w => k1 (q.mp w)), if_neg k1, Option.bind_some, kr_from ok p3 (by omega), Option.bind_some]
      have hx := hp (vN (c 70 m)) p3 (by omega)
      have q2 := kRC_eq (x := c 11 (vN (c 70 m))) ok hC h1 h2 ⟨hx.1, by have := hx.2; omega⟩
      by_cases k2 : c 11 (vN (c 70 m)) = nI j
      · rw [if_pos (q2.mpr k2), if_pos k2, Option.bind_some, kr_from ok h1 h2, Option.bind_some, kw_from ok p3 (by omega), Option.bind_some]
        refine n59 _ _ (by omega) ⟨hl, fun k q1 q2 => ?_⟩
        by_cases w : k = vN (c 70 m)
        · have : sS c 11 (vN (c 70 m)) (c 11 j) 11 k = c 11 j := by
            rw [w]; simp only [sS_app, and_self, ↓reduceIte]
          rw [this]
          have hj := hp j h1 h2
          rw [k2] at hx
          have hx2 := hx.2
          rw [vN_nI (by omega)] at hx2
          exact ⟨hj.1, by have := hj.2; omega⟩
        · have : sS c 11 (vN (c 70 m)) (c 11 j) 11 k = c 11 k := by
            simp only [sS_app, w, and_false, ↓reduceIte]
          rw [this]
          exact hp k q1 q2
      · rw [if_neg (fun w => k2 (q2.mp w)), if_neg k2]
        exact n59 _ _ (by omega) ⟨hl, hp⟩
theorem t_K_unlist (ok : kOk W h) (hC : kC W < 1200) {n j : Nat} (h1 : 1 ≤ j) (h2 : j ≤ kC W) (U : kUP W c n) : f_K_unlist z [.ref (kg W 0 0), .ref (kg W 1 j)] (kPut W h c) = some (.inl none, kPut W h (kUn j n n c)) := by
  refine E_K_unlist z _ (some (kg W 1 j)) _ _ ?_
  unfold D_K_unlist_0
  rw [kr_capabilities ok, Option.bind_some, Option.bind_some, kisA ok, Option.bind_some, t_A_size ok, xclI_some, ic_1, U.1.1]
  exact t_unl ok hC h1 h2 n n c (Nat.le_refl _) U
end KK
