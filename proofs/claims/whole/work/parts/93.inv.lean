/-! The invariant: a capability is off; an object ends. -/
/-- what a living capability is for is there -/
def jAt (W : kW) (c : mS) : Prop := (∀ k, 1 ≤ k → k ≤ kC W → ¬ c 12 k = 0 → ¬ c 6 (vN (c 8 k)) = 0) ∧ ¬ c 6 1 = 0
section LE
variable {W : kW} {c : mS} {n : Nat}
section OFF
variable {j q p C o : Nat}
theorem kO1_12 (k : Nat) : kOff1 c j q 12 k = if k = j then 0 else c 12 k := by
  simp only [kOff1, sS_app, Nat.reduceEqDiff, true_and, false_and, ↓reduceIte]
theorem kO_fn {f : Nat} (h1 : f ≠ 11) (h2 : f ≠ 12) (h3 : f ≠ 14) (h4 : f ≠ 61) (h5 : f ≠ 64) (h6 : f ≠ 70) (h7 : f ≠ 71) (h8 : f ≠ 72) : kOff c j q p n C o f = c f := by
  funext u
  simp only [kOff, kRem, kShift, sS_app, mRep_ne _ _ _ h1, kOff1, h2, h3, h4, h5, h6, h7, h8, false_and, ↓reduceIte]
theorem kO_12 (k : Nat) : kOff c j q p n C o 12 k = if k = j then 0 else c 12 k := by
  simp only [kOff, kRem, kShift, sS_app, mRep_ne _ _ _ (show (12 : Nat) ≠ 11 by decide), kOff1, Nat.reduceEqDiff, true_and, false_and, ↓reduceIte]
theorem kO_14 (k : Nat) : kOff c j q p n C o 14 k = if k = q then 0 else c 14 k := by
  simp only [kOff, kRem, kShift, sS_app, mRep_ne _ _ _ (show (14 : Nat) ≠ 11 by decide), kOff1, Nat.reduceEqDiff, true_and, false_and, ↓reduceIte]
theorem kO_64 (k : Nat) : kOff c j q p n C o 64 k = if k = j then 0 else c 64 k := by
  simp only [kOff, kRem, kShift, sS_app, mRep_ne _ _ _ (show (64 : Nat) ≠ 11 by decide), kOff1, Nat.reduceEqDiff, true_and, false_and, ↓reduceIte]
theorem kO_61 (k : Nat) : kOff c j q p n C o 61 k = if k = o then c 61 o - 1 else c 61 k := by
  simp only [kOff, kRem, kShift, sS_app, mRep_ne _ _ _ (show (61 : Nat) ≠ 11 by decide), kOff1, Nat.reduceEqDiff, true_and, false_and, ↓reduceIte]
theorem kO_11 (k : Nat) : kOff c j q p n C o 11 k = if (1 ≤ k ∧ k ≤ C) ∧ ¬ (if k = j then (0 : Int32) else c 12 k) = 0 ∧ c 11 k = nI j then c 11 j else c 11 k := by
  have e : kOff c j q p n C o 11 k = mRep (kOff1 c j q) j C 11 k := by
    simp only [kOff, kRem, kShift, sS_app, Nat.reduceEqDiff, false_and, ↓reduceIte]
  rw [e, mRep_11, kO1_12]
  rfl
theorem kO_70 (u : Nat) : kOff c j q p n C o 70 u = if u = n - 1 then 0 else if p ≤ u ∧ u < n - 1 then c 70 (u + 1) else c 70 u := by
  simp only [kOff, kRem, kShift, sS_app, mRep_ne _ _ _ (show (70 : Nat) ≠ 11 by decide), kOff1, Nat.reduceEqDiff, true_and, false_and, ↓reduceIte]
theorem kO_71 : kOff c j q p n C o 71 0 = c 71 0 - 1 := by
  simp only [kOff, kRem, kShift, sS_app, mRep_ne _ _ _ (show (71 : Nat) ≠ 11 by decide), kOff1, Nat.reduceEqDiff, true_and, and_self, false_and, ↓reduceIte]
end OFF
theorem mLeft_drop {c c' : mS} {x : Int32} {j : Nat} (j1 : 1 ≤ j) (jl : ¬ c 12 j = 0) (h12 : ∀ k, c' 12 k = if k = j then 0 else c 12 k) (h8 : c' 8 = c 8) : ∀ m : Nat, mLeft c' x m + (if j ≤ m ∧ c 8 j = x then 1 else 0) = mLeft c x m
  | 0 => by
    rw [if_neg (by omega)]
    rfl
  | m + 1 => by
    have ih := mLeft_drop j1 jl h12 h8 m (x := x)
    rw [mLeft_succ, mLeft_succ, h12, h8]
    by_cases e : m + 1 = j
    · rw [if_pos e, if_neg (fun w => w.1 rfl), ← e]
      rw [← e, if_neg (by omega)] at ih
      by_cases y : c 8 (m + 1) = x
      · rw [if_pos ⟨Nat.le_refl _, y⟩, if_pos ⟨by rw [e]; exact jl, y⟩]
        omega
      · rw [if_neg (fun w => y w.2), if_neg (fun w => y w.2)]
        omega
    · rw [if_neg e]
      have : (j ≤ m + 1 ∧ c 8 j = x) ↔ (j ≤ m ∧ c 8 j = x) := by
        constructor
        · rintro ⟨w1, w2⟩; exact ⟨by omega, w2⟩
        · rintro ⟨w1, w2⟩; exact ⟨by omega, w2⟩
      simp only [this]
      omega
theorem jA_off (J : jA W c n) {j q p o : Nat} (j1 : 1 ≤ j) (j2 : j ≤ kC W) (jl : ¬ c 12 j = 0) (hq : q < 400) (hqj : c 14 q = nI j) (hp : p < n) (hpj : c 70 p = nI j) (ho : c 8 j = nI o) (ho2 : o < kT W) : jA W (kOff c j q p n (kC W) o) (n - 1) := by
  have J0 := J
  obtain ⟨⟨b1, b2, b3, b4⟩, a1, a2, a3, a4, a5, a6, a7, a8, a9⟩ := J
  obtain ⟨-, -, g64, g65, -, -⟩ := J0.lv hq j1 (by omega) hqj
  have fn := fun f h1 h2 h3 h4 h5 h6 h7 h8 => kO_fn (c := c) (n := n) (j := j) (q := q) (p := p) (C := kC W) (o := o) (f := f) h1 h2 h3 h4 h5 h6 h7 h8
  have e1 := fn 1 (by decide) (by decide) (by decide) (by decide) (by decide) (by decide) (by decide) (by decide)
  have e2 := fn 2 (by decide) (by decide) (by decide) (by decide) (by decide) (by decide) (by decide) (by decide)
  have e3 := fn 3 (by decide) (by decide) (by decide) (by decide) (by decide) (by decide) (by decide) (by decide)
  have e5 := fn 5 (by decide) (by decide) (by decide) (by decide) (by decide) (by decide) (by decide) (by decide)
  have e6 := fn 6 (by decide) (by decide) (by decide) (by decide) (by decide) (by decide) (by decide) (by decide)
  have e8 := fn 8 (by decide) (by decide) (by decide) (by decide) (by decide) (by decide) (by decide) (by decide)
  have e9 := fn 9 (by decide) (by decide) (by decide) (by decide) (by decide) (by decide) (by decide) (by decide)
  have e62 := fn 62 (by decide) (by decide) (by decide) (by decide) (by decide) (by decide) (by decide) (by decide)
  have e65 := fn 65 (by decide) (by decide) (by decide) (by decide) (by decide) (by decide) (by decide) (by decide)
  have e68 := fn 68 (by decide) (by decide) (by decide) (by decide) (by decide) (by decide) (by decide) (by decide)
  have e69 := fn 69 (by decide) (by decide) (by decide) (by decide) (by decide) (by decide) (by decide) (by decide)
  refine ⟨⟨b1, b2, b3, by omega⟩, ?_, ?_, ?_, ?_, ?_, ?_, ?_, jA8_of e62 e68 e69 e5 e6 a8, ?_⟩
  · intro q' q1
    rw [kO_14]
    by_cases e : q' = q
    · rw [if_pos e]
      exact Or.inl rfl
    · rw [if_neg e]
      rcases a1 q' q1 with w | ⟨k, k1, k2, k3, k4, k5, k6, k7, k8⟩
      · exact Or.inl w
      · have hkj : k ≠ j := by
          intro w
          subst w
          rw [g64] at k5
          rw [g65] at k6
          have u1 := (nI_eq (by omega) (by omega)).mp k5
          have u2 := (nI_eq (by omega) (by omega)).mp k6
          omega
        exact Or.inr ⟨k, k1, k2, k3, by rw [kO_12, if_neg hkj]; exact k4, by rw [kO_64, if_neg hkj]; exact k5, by rw [e65]; exact k6, k7, by rw [e1]; exact k8⟩
  · intro k k1 k2 k3
    rw [kO_12] at k3
    by_cases hkj : k = j
    · rw [if_pos hkj] at k3
      exact absurd rfl k3
    · rw [if_neg hkj] at k3
      obtain ⟨q', q1, q2⟩ := a2 k k1 k2 k3
      refine ⟨q', q1, ?_⟩
      rw [kO_14, if_neg (fun w => by rw [w, hqj] at q2; exact hkj ((nI_eq (by omega) (by omega)).mp q2).symm)]
      exact q2
  · intro k k1 k2
    obtain ⟨w1, w2, w3, w4, w5⟩ := a3 k k1 k2
    refine ⟨by rw [e8]; exact w1, ?_, by rw [e9]; exact w3, ?_, ?_⟩
    · rw [kO_11]
      by_cases y : (1 ≤ k ∧ k ≤ kC W) ∧ ¬ (if k = j then (0 : Int32) else c 12 k) = 0 ∧ c 11 k = nI j
      · rw [if_pos y]
        have hj := (a3 j j1 j2).2.1
        have : j < k := by
          have := w2.2
          rw [y.2.2, vN_nI (by omega)] at this
          exact this
        exact isN_mono hj (by omega)
      · rw [if_neg y]
        exact w2
    · rw [kO_12]
      split
      · exact Or.inl rfl
      · exact w4
    · rw [kO_64]
      split
      · exact isN_nI (n := 0) (by omega) (by omega)
      · exact w5
  · intro k hk
    obtain ⟨w1, w2, w3⟩ := a4 k hk
    refine ⟨by rw [e8]; exact w1, ?_, ?_⟩
    · rw [kO_11, if_neg (by omega)]
      exact w2
    · rw [kO_12, if_neg (by omega)]
      exact w3
  · obtain ⟨⟨l1, l2, l3, l4, l5, l6⟩, m1, m2⟩ := a5
    have x70 : ∀ u, u < n - 1 → kOff c j q p n (kC W) o 70 u = c 70 (if u < p then u else u + 1) := by
      intro u hu
      rw [kO_70, if_neg (by omega)]
      by_cases w : u < p
      · rw [if_pos w, if_neg (by omega)]
      · rw [if_neg w, if_pos (by omega)]
    refine ⟨⟨?_, by omega, l3, l4, fun u hu => ?_, fun u hu => ?_⟩, fun u u' h1 h2 => ?_, fun k k1 k2 => ?_⟩
    · rw [kO_71, l1, show n = (n - 1) + 1 by omega, nI_pred]
      rfl
    · rw [x70 u hu]
      refine l5 _ ?_
      split <;> omega
    · rw [kO_70]
      by_cases w : u = n - 1
      · rw [if_pos w]
      · rw [if_neg w, if_neg (by omega)]
        exact l6 u (by omega)
    · rw [x70 u (by omega), x70 u' h2]
      refine m1 _ _ ?_ ?_
      · split <;> split <;> omega
      · split <;> omega
    · rw [kO_12]
      by_cases hkj : k = j
      · rw [if_pos hkj]
        refine ⟨fun w => absurd rfl w, ?_⟩
        rintro ⟨u, u1, u2⟩
        rw [x70 u u1, hkj] at u2
        have hv : vN (c 70 (if u < p then u else u + 1)) = vN (c 70 p) := by rw [u2, hpj]
        by_cases w : u < p
        · rw [if_pos w] at hv
          have := m1 u p w hp
          omega
        · rw [if_neg w] at hv
          have := m1 p (u + 1) (by omega) (by omega)
          omega
      · rw [if_neg hkj, m2 k k1 k2]
        constructor
        · rintro ⟨u, u1, u2⟩
          have hup : u ≠ p := fun w => by rw [w, hpj] at u2; exact hkj ((nI_eq (by omega) (by omega)).mp u2).symm
          by_cases w : u < p
          · exact ⟨u, by omega, by rw [x70 u (by omega), if_pos w]; exact u2⟩
          · refine ⟨u - 1, by omega, ?_⟩
            rw [x70 (u - 1) (by omega), if_neg (by omega), show u - 1 + 1 = u by omega]
            exact u2
        · rintro ⟨u, u1, u2⟩
          rw [x70 u u1] at u2
          exact ⟨_, by split <;> omega, u2⟩
  · intro x hx
    have hL := mLeft_drop (c := c) (c' := kOff c j q p n (kC W) o) (x := nI x) j1 jl kO_12 e8 (kC W)
    rw [kO_61]
    by_cases e : x = o
    · rw [if_pos e]
      rw [e] at hL ⊢
      rw [if_pos ⟨j2, ho⟩] at hL
      rw [a6 o ho2, ← hL, nI_pred]
    · rw [if_neg e]
      rw [if_neg (fun w => by rw [ho] at w; exact e ((nI_eq (by omega) (by omega)).mp w.2).symm)] at hL
      rw [a6 x hx, ← hL]
      rfl
  · unfold jA7
    rw [e5]
    exact a7
  · unfold jA9 kUs
    rw [e1, e2, e3]
    exact a9
theorem jAt_off (T : jAt W c) {j q p o : Nat} : jAt W (kOff c j q p n (kC W) o) := by
  have e8 : kOff c j q p n (kC W) o 8 = c 8 := kO_fn (by decide) (by decide) (by decide) (by decide) (by decide) (by decide) (by decide) (by decide)
  have e6 : kOff c j q p n (kC W) o 6 = c 6 := kO_fn (by decide) (by decide) (by decide) (by decide) (by decide) (by decide) (by decide) (by decide)
  refine ⟨fun k k1 k2 k3 => ?_, by rw [e6]; exact T.2⟩
  rw [e8, e6]
  refine T.1 k k1 k2 ?_
  rw [kO_12] at k3
  split at k3
  · exact absurd rfl k3
  · exact k3
/-- an object ends: it is gone, and what it was made of has one fewer -/
def kEnd (c : mS) (o o' : Nat) : mS := if o < 10 then sS c 6 o 0 else sS (sS (sS c 6 o 0) 62 o' (c 62 o' - 1)) 68 0 (c 68 0 - 1)
theorem kMd_end {c c' : mS} {y o : Nat} (h10 : 10 ≤ o) (ht : ¬ c 6 o = 0) (h6 : ∀ k, c' 6 k = if k = o then 0 else c 6 k) (h5 : c' 5 = c 5) : ∀ m : Nat, kMd c' y m + (if o < 10 + m ∧ c 5 o = nI y then 1 else 0) = kMd c y m
  | 0 => by
    rw [if_neg (by omega)]
    rfl
  | m + 1 => by
    have ih := kMd_end h10 ht h6 h5 m (y := y)
    unfold kMd
    rw [h6, h5]
    by_cases e : 10 + m = o
    · rw [if_pos e, if_neg (fun w => w.1 rfl), ← e]
      rw [← e, if_neg (by omega)] at ih
      by_cases w : c 5 (10 + m) = nI y
      · rw [if_pos ⟨by omega, w⟩, if_pos ⟨by rw [e]; exact ht, w⟩]
        omega
      · rw [if_neg (fun v => w v.2), if_neg (fun v => w v.2)]
        omega
    · rw [if_neg e]
      have : (o < 10 + (m + 1) ∧ c 5 o = nI y) ↔ (o < 10 + m ∧ c 5 o = nI y) := by
        constructor
        · rintro ⟨w1, w2⟩; exact ⟨by omega, w2⟩
        · rintro ⟨w1, w2⟩; exact ⟨by omega, w2⟩
      simp only [this]
      omega
theorem mTh_end {c c' : mS} {o : Nat} (h10 : 10 ≤ o) (ht : ¬ c 6 o = 0) (h6 : ∀ k, c' 6 k = if k = o then 0 else c 6 k) : ∀ m : Nat, mTh c' m + (if o < 10 + m then 1 else 0) = mTh c m
  | 0 => by
    rw [if_neg (by omega)]
    rfl
  | m + 1 => by
    have ih := mTh_end h10 ht h6 m
    unfold mTh
    rw [h6]
    by_cases e : 10 + m = o
    · rw [if_pos e, if_pos rfl, show (if o < 10 + (m + 1) then 1 else 0) = 1 from if_pos (by omega), if_neg (by rw [e]; exact ht)]
      rw [if_neg (by omega)] at ih
      omega
    · rw [if_neg e]
      by_cases w : o < 10 + m
      · rw [show (if o < 10 + (m + 1) then 1 else 0) = 1 from if_pos (by omega)]
        rw [if_pos w] at ih
        by_cases v : c 6 (10 + m) = 0
        · rw [if_pos v, if_pos v]; omega
        · rw [if_neg v, if_neg v]; omega
      · rw [show (if o < 10 + (m + 1) then 1 else 0) = 0 from if_neg (by omega)]
        rw [if_neg w] at ih
        by_cases v : c 6 (10 + m) = 0
        · rw [if_pos v, if_pos v]; omega
        · rw [if_neg v, if_neg v]; omega
theorem kEnd_6 {o o' k : Nat} : kEnd c o o' 6 k = if k = o then 0 else c 6 k := by
  unfold kEnd
  split <;> simp only [sS_app, Nat.reduceEqDiff, true_and, false_and, ↓reduceIte]
theorem kEnd_fn {o o' f : Nat} (h1 : f ≠ 6) (h2 : f ≠ 62) (h3 : f ≠ 68) : kEnd c o o' f = c f := by
  unfold kEnd
  split
  · rw [sS_fn h1]
  · rw [sS_fn h3, sS_fn h2, sS_fn h1]
theorem jA_end (J : jA W c n) {o o' : Nat} (ho : o < kT W) (ht : ¬ c 6 o = 0) (h5 : 10 ≤ o → c 5 o = nI o' ∧ o' < kT W) : jA W (kEnd c o o') n := by
  obtain ⟨⟨b1, b2, b3, b4⟩, a1, a2, a3, a4, a5, a6, a7, a8, a9⟩ := J
  have fn := fun f h1 h2 h3 => kEnd_fn (c := c) (o := o) (o' := o') (f := f) h1 h2 h3
  refine ⟨⟨b1, b2, b3, b4⟩, ?_, ?_, ?_, ?_, ?_, jA6_of (fn 61 (by decide) (by decide) (by decide)) (fn 12 (by decide) (by decide) (by decide)) (fn 8 (by decide) (by decide) (by decide)) a6, ?_, ?_, ?_⟩
  · unfold jA1; rw [fn 14 (by decide) (by decide) (by decide), fn 12 (by decide) (by decide) (by decide), fn 64 (by decide) (by decide) (by decide), fn 65 (by decide) (by decide) (by decide), fn 1 (by decide) (by decide) (by decide)]; exact a1
  · unfold jA2; rw [fn 14 (by decide) (by decide) (by decide), fn 12 (by decide) (by decide) (by decide)]; exact a2
  · unfold jA3; rw [fn 8 (by decide) (by decide) (by decide), fn 11 (by decide) (by decide) (by decide), fn 9 (by decide) (by decide) (by decide), fn 12 (by decide) (by decide) (by decide), fn 64 (by decide) (by decide) (by decide)]; exact a3
  · unfold jA4; rw [fn 8 (by decide) (by decide) (by decide), fn 11 (by decide) (by decide) (by decide), fn 12 (by decide) (by decide) (by decide)]; exact a4
  · unfold jA5 kLs; rw [fn 70 (by decide) (by decide) (by decide), fn 71 (by decide) (by decide) (by decide), fn 12 (by decide) (by decide) (by decide)]; exact a5
  · unfold jA7; rw [fn 5 (by decide) (by decide) (by decide)]; exact a7
  · obtain ⟨m1, m2, m3⟩ := a8
    have f5 := fn 5 (by decide) (by decide) (by decide)
    rcases Nat.lt_or_ge o 10 with q | q
    · have e : kEnd c o o' = sS c 6 o 0 := if_pos q
      have h6 : ∀ k, k < kT W - 10 → kEnd c o o' 6 (10 + k) = c 6 (10 + k) := fun k hk => by rw [kEnd_6, if_neg (by omega)]
      refine ⟨fun y hy => ?_, ?_, ?_⟩
      · rw [kMd_congr (c := c) _ (fun k hk => ⟨h6 k hk, by rw [f5]⟩), e]
        exact m1 y hy
      · rw [mTh_congr (c := c) _ h6, e]
        exact m2
      · rw [e]
        exact m3
    · obtain ⟨p1, p2⟩ := h5 q
      have e : kEnd c o o' = sS (sS (sS c 6 o 0) 62 o' (c 62 o' - 1)) 68 0 (c 68 0 - 1) := if_neg (by omega)
      have k62 : ∀ y, kEnd c o o' 62 y = if y = o' then c 62 o' - 1 else c 62 y := fun y => by
        rw [e]; simp only [sS_app, Nat.reduceEqDiff, true_and, false_and, ↓reduceIte]
      have k68 : kEnd c o o' 68 0 = c 68 0 - 1 := by
        rw [e]; simp only [sS_app, and_self, ↓reduceIte]
      refine ⟨fun y hy => ?_, ?_, ?_⟩
      · have hM := kMd_end (c := c) (c' := kEnd c o o') (y := y) q ht (fun k => kEnd_6) f5 (kT W - 10)
        rw [k62]
        by_cases w : y = o'
        · rw [if_pos w]
          rw [w] at hM ⊢
          rw [if_pos ⟨by omega, p1⟩] at hM
          rw [m1 o' p2, ← hM, nI_pred]
        · rw [if_neg w]
          rw [if_neg (fun v => by rw [p1] at v; exact w ((nI_eq (by omega) (by omega)).mp v.2).symm)] at hM
          rw [m1 y hy, ← hM]
          rfl
      · have hH := mTh_end (c := c) (c' := kEnd c o o') q ht (fun k => kEnd_6) (kT W - 10)
        rw [if_pos (by omega)] at hH
        rw [k68, m2, ← hH, nI_pred]
      · rw [fn 69 (by decide) (by decide) (by decide)]
        exact m3
  · unfold jA9 kUs; rw [fn 1 (by decide) (by decide) (by decide), fn 2 (by decide) (by decide) (by decide), fn 3 (by decide) (by decide) (by decide)]; exact a9
theorem jAt_end (T : jAt W c) {o o' : Nat} (h1 : o ≠ 1) (h0 : mLeft c (nI o) (kC W) = 0) (ho : o < 2 ^ 31) (h8 : ∀ k, 1 ≤ k → k ≤ kC W → ∃ x, c 8 k = nI x ∧ x < 2 ^ 31) : jAt W (kEnd c o o') := by
  have nol : ∀ m k, 1 ≤ k → k ≤ m → mLeft c (nI o) m = 0 → ¬ c 12 k = 0 → ¬ c 8 k = nI o := by
    intro m
    induction m with
    | zero => intro k k1 k2; omega
    | succ m ih =>
      intro k k1 k2 e l w
      rw [mLeft_succ] at e
      by_cases q : k = m + 1
      · subst q
        rw [if_pos ⟨l, w⟩] at e
        omega
      · exact ih k k1 (by omega) (by omega) l w
  refine ⟨fun k k1 k2 k3 => ?_, by rw [kEnd_6, if_neg (fun w => h1 w.symm)]; exact T.2⟩
  rw [kEnd_fn (f := 12) (by decide) (by decide) (by decide)] at k3
  rw [kEnd_fn (f := 8) (by decide) (by decide) (by decide), kEnd_6, if_neg]
  · exact T.1 k k1 k2 k3
  · intro w
    obtain ⟨x, x1, x2⟩ := h8 k k1 k2
    refine nol (kC W) k k1 k2 h0 k3 ?_
    rw [x1] at w ⊢
    rw [vN_nI x2] at w
    rw [w]
end LE
