/-! Class and reference: the same capabilities and objects; the pile. -/
def jE (W : kW) (c s : mS) : Prop := c 1 = s 1 ∧ c 2 = s 2 ∧ c 3 = s 3 ∧ c 4 = s 4 ∧ c 5 = s 5 ∧ c 6 = s 6 ∧ c 8 = s 8 ∧ c 9 = s 9 ∧ c 10 = s 10 ∧ c 11 = s 11 ∧ c 12 = s 12 ∧ c 14 = s 14 ∧ s 13 0 = nI (kC W) ∧ s 7 0 = nI (kT W)
def kRel (K : Nat) (W : kW) (c s : mS) (n : Nat) : Prop := jA W c n ∧ jAt W c ∧ jE W c s ∧ jB K W c s
/-- what only takes away -/
def kMn (c c' : mS) : Prop := c' 1 = c 1 ∧ c' 8 = c 8 ∧ (∀ q, q < 400 → c' 14 q = c 14 q ∨ (c' 14 q = 0 ∧ (c 14 q = 0 ∨ c' 12 (vN (c 14 q)) = 0))) ∧ (∀ k, c 12 k = 0 → c' 12 k = 0) ∧ ∀ f, f = 2 ∨ f = 3 ∨ f = 4 ∨ f = 9 ∨ f = 10 ∨ f = 35 ∨ f = 36 ∨ f = 37 ∨ f = 73 ∨ f = 74 ∨ f = 75 → c' f = c f
def sMn (s s' : mS) : Prop := ∀ f, f = 34 ∨ f = 35 ∨ f = 36 ∨ f = 37 → s' f = s f
section LF
variable {W : kW} {c s : mS} {K n : Nat}
theorem kMn.rf : kMn c c := ⟨rfl, rfl, fun _ _ => Or.inl rfl, fun _ h => h, fun _ _ => rfl⟩
theorem kMn.tr {c' c2 : mS} (p : kMn c c') (q : kMn c' c2) : kMn c c2 := by
  obtain ⟨p1, p2, p3, p4, p5⟩ := p
  obtain ⟨q1, q2, q3, q4, q5⟩ := q
  refine ⟨q1.trans p1, q2.trans p2, fun x hx => ?_, fun k h => q4 k (p4 k h), fun f hf => (q5 f hf).trans (p5 f hf)⟩
  rcases p3 x hx with e | ⟨e, w⟩
  · rcases q3 x hx with e' | ⟨e', w'⟩
    · exact Or.inl (e'.trans e)
    · rw [e] at w'
      exact Or.inr ⟨e', w'⟩
  · refine Or.inr ⟨?_, w.elim Or.inl (fun y => Or.inr (q4 _ y))⟩
    rcases q3 x hx with e' | ⟨e', -⟩
    · rw [e', e]
    · exact e'
theorem sMn.rf : sMn s s := fun _ _ => rfl
theorem sMn.tr {s' s2 : mS} (p : sMn s s') (q : sMn s' s2) : sMn s s2 := fun f hf => (q f hf).trans (p f hf)
theorem mFind_eq {x : Int32} {q : Nat} (hq : s 14 q = x) : ∀ (n i : Nat), i ≤ q → q < i + n → (∀ q', q' < q → i ≤ q' → ¬ s 14 q' = x) → mFind s x n i = some q
  | 0, i, h1, h2, _ => by omega
  | n + 1, i, h1, h2, hu => by
    unfold mFind
    by_cases e : i = q
    · rw [e, if_pos hq]
    · rw [if_neg (hu i (by omega) (Nat.le_refl _))]
      exact mFind_eq hq n (i + 1) (by omega) (by omega) (fun q' a b => hu q' a (by omega))
theorem mSlotOf_eq {x : Int32} {q : Nat} (hq : s 14 q = x) (h4 : q < 400) (hu : ∀ q', q' < 400 → s 14 q' = x → q' = q) : mSlotOf s x = some q := mFind_eq hq 400 0 (Nat.zero_le _) (by omega) (fun q' a _ w => by have := hu q' (by omega) w; omega)
/-- one capability stands in one slot -/
theorem jA.one (J : jA W c n) {q q' k : Nat} (hq : q < 400) (hq' : q' < 400) (k1 : 1 ≤ k) (k2 : k < 2 ^ 31) (e : c 14 q = nI k) (e' : c 14 q' = nI k) : q' = q := by
  obtain ⟨-, -, g1, g2, -⟩ := J.lv hq k1 k2 e
  obtain ⟨-, -, g3, g4, -⟩ := J.lv hq' k1 k2 e'
  rw [g1] at g3
  rw [g2] at g4
  have u1 := (nI_eq (by omega) (by omega)).mp g3
  have u2 := (nI_eq (by omega) (by omega)).mp g4
  omega
theorem mAb1_fn {t f : Nat} (h1 : f ≠ 15) (h2 : f ≠ 16) (h3 : f ≠ 21) (h4 : f ≠ 31) : mAb1 s t f = s f := by
  unfold mAb1 mReady
  rw [sS_fn h1, sS_fn h3, sS_fn h4, sS_fn h2]
theorem mAbort_fn {o : Int32} {f : Nat} (h1 : f ≠ 15) (h2 : f ≠ 16) (h3 : f ≠ 21) (h4 : f ≠ 31) : ∀ (n : Nat) (s : mS), mAbort o n s f = s f
  | 0, s => rfl
  | n + 1, s => by
    unfold mAbort
    split
    · rfl
    · rw [mAbort_fn h1 h2 h3 h4 n, mAb1_fn h1 h2 h3 h4]
theorem kAb1_fn {o f : Nat} (h1 : f ≠ 15) (h2 : f ≠ 16) (h3 : f ≠ 52) (h4 : f ≠ 31) (h5 : f ≠ 21) : kAb1 c o f = c f := by
  funext j
  exact kAb1_ne h1 h2 h3 h4 h5
theorem kAbort_fn {o f : Nat} (h1 : f ≠ 15) (h2 : f ≠ 16) (h3 : f ≠ 52) (h4 : f ≠ 31) (h5 : f ≠ 21) : kAbort c o f = c f := by
  unfold kAbort
  rw [kAb1_fn h1 h2 h3 h4 h5, kAb1_fn h1 h2 h3 h4 h5, kAb1_fn h1 h2 h3 h4 h5]
theorem jA_ab (J : jA W c n) {o : Nat} : jA W (kAbort c o) n := by
  have fn := fun f h1 h2 h3 h4 h5 => kAbort_fn (c := c) (o := o) (f := f) h1 h2 h3 h4 h5
  refine jA_of J ?_ ?_ ?_ ?_ ?_ ?_ ?_ ?_ ?_ ?_ ?_ ?_ ?_ ?_ ?_ ?_ ?_ ?_ <;> exact fn _ (by decide) (by decide) (by decide) (by decide) (by decide)
theorem jAt_ab (T : jAt W c) {o : Nat} : jAt W (kAbort c o) := by
  unfold jAt
  rw [kAbort_fn (f := 12) (by decide) (by decide) (by decide) (by decide) (by decide), kAbort_fn (f := 6) (by decide) (by decide) (by decide) (by decide) (by decide), kAbort_fn (f := 8) (by decide) (by decide) (by decide) (by decide) (by decide)]
  exact T
-- the pile
def cn (x : Nat → Int32) : Nat → Nat → Nat
  | 0, _ => 0
  | m + 1, i => (if x i = 0 then 0 else 1) + cn x m (i + 1)
theorem cn_le (x : Nat → Int32) : ∀ m i, cn x m i ≤ m
  | 0, _ => Nat.le_refl _
  | m + 1, i => by
    unfold cn
    have := cn_le x m (i + 1)
    split <;> omega
theorem cn_at (x : Nat → Int32) {i : Nat} (hi : i < 8) : cn x (8 - i) i = (if x i = 0 then 0 else 1) + cn x (8 - (i + 1)) (i + 1) := by
  rw [show 8 - i = (8 - (i + 1)) + 1 by omega]
  rfl
theorem mPushL_spec {o p : Nat} {x : Nat → Int32} (hp : p + 8 < 1200) : ∀ (j : Nat) (s : mS), j ≤ 8 → (∀ i, i < 8 → s 14 (8 * o + i) = x i) → s 33 0 = nI (p + cn x (8 - j) j) → (∀ i, j ≤ i → i < 8 → ¬ x i = 0 → s 32 (p + cn x (8 - (i + 1)) (i + 1)) = x i) →
    (∀ f, f ≠ 32 → f ≠ 33 → mPushL o j s f = s f) ∧ mPushL o j s 33 0 = nI (p + cn x 8 0) ∧ (∀ i, i < 8 → ¬ x i = 0 → mPushL o j s 32 (p + cn x (8 - (i + 1)) (i + 1)) = x i) ∧ ∀ i, i < p → mPushL o j s 32 i = s 32 i
  | 0, s, _, h14, h33, h32 => ⟨fun _ _ _ => rfl, h33, fun i hi => h32 i (Nat.zero_le _) hi, fun _ _ => rfl⟩
  | j + 1, s, hj, h14, h33, h32 => by
    have hc := cn_at x (show j < 8 by omega)
    have hle := cn_le x (8 - (j + 1)) (j + 1)
    unfold mPushL
    rw [h14 j (by omega)]
    by_cases e : x j = 0
    · rw [if_pos e]
      rw [if_pos e, Nat.zero_add] at hc
      refine mPushL_spec hp j s (by omega) h14 (by rw [hc]; exact h33) (fun i hi hi8 hx => ?_)
      have : i ≠ j := fun w => hx (by rw [w]; exact e)
      exact h32 i (by omega) hi8 hx
    · rw [if_neg e]
      rw [if_neg e] at hc
      have hv : vN (s 33 0) = p + cn x (8 - (j + 1)) (j + 1) := by rw [h33, vN_nI (by omega)]
      have g33 : sS (sS s 32 (vN (s 33 0)) (x j)) 33 0 (s 33 0 + 1) 33 0 = nI (p + cn x (8 - j) j) := by
        rw [sS_app, if_pos ⟨rfl, rfl⟩, h33, nI_1, hc, show p + cn x (8 - (j + 1)) (j + 1) + 1 = p + (1 + cn x (8 - (j + 1)) (j + 1)) by omega]
      have g32 : ∀ u, sS (sS s 32 (vN (s 33 0)) (x j)) 33 0 (s 33 0 + 1) 32 u = if u = p + cn x (8 - (j + 1)) (j + 1) then x j else s 32 u := fun u => by
        simp only [sS_app, Nat.reduceEqDiff, true_and, false_and, ↓reduceIte, hv]
      obtain ⟨r1, r2, r3, r4⟩ := mPushL_spec hp j (sS (sS s 32 (vN (s 33 0)) (x j)) 33 0 (s 33 0 + 1)) (by omega) h14 g33 (fun i hi hi8 hx => by
        rw [g32]
        by_cases w : i = j
        · subst w
          rw [if_pos rfl]
        · have l1 := cn_at x (show i < 8 from hi8)
          rw [if_neg hx] at l1
          have l2 : cn x (8 - i) i ≤ cn x (8 - (j + 1)) (j + 1) := by
            have : ∀ a b, a ≤ b → b ≤ 8 → cn x (8 - b) b ≤ cn x (8 - a) a := by
              intro a b hab hb
              obtain ⟨t, rfl⟩ := Nat.exists_eq_add_of_le hab
              clear hab
              induction t with
              | zero => exact Nat.le_refl _
              | succ t ih =>
                have := cn_at x (show a + t < 8 by omega)
                have := ih (by omega)
                rw [show a + (t + 1) = a + t + 1 by omega]
                omega
            exact this (j + 1) i (by omega) (by omega)
          rw [if_neg (by omega)]
          exact h32 i (by omega) hi8 hx)
      refine ⟨fun f f1 f2 => (r1 f f1 f2).trans (by rw [sS_fn f2, sS_fn f1]), r2, r3, fun i hi => ?_⟩
      rw [r4 i hi, g32, if_neg (by omega)]
/-- one round of drop: a capability that is gone -/
theorem mDropL_dead {C p j G k0 : Nat} (h33 : s 33 0 = nI (p + 1)) (hp : p + 9 < 1200) (h13 : s 13 0 = nI C) (hC : C < 1200) (h32 : s 32 p = nI j) (hj : j < 1200) (hd : s 12 j = 0) : mDropL C (G + 1) k0 s = mDropL C G k0 (sS s 33 0 (nI p)) := by
  have v33 : vN (s 33 0) = p + 1 := by rw [h33, vN_nI (by omega)]
  have v32 : vN (s 32 p) = j := by rw [h32, vN_nI (by omega)]
  conv => lhs; unfold mDropL
  rw [v33, if_pos ⟨h33, by omega, h13, hC⟩, if_neg (by omega), show p + 1 - 1 = p by omega, v32, if_pos ⟨h32, hj⟩, if_pos hd]
theorem mDropL_live {C p j G k0 : Nat} (h33 : s 33 0 = nI (p + 1)) (hp : p + 9 < 1200) (h13 : s 13 0 = nI C) (hC : C < 1200) (h32 : s 32 p = nI j) (hj : j < 1200) (hd : ¬ s 12 j = 0) : mDropL C (G + 1) k0 s = (mDrop1 C j (sS s 33 0 (nI p))).bind (mDropL C G (k0 + 1)) := by
  have v33 : vN (s 33 0) = p + 1 := by rw [h33, vN_nI (by omega)]
  have v32 : vN (s 32 p) = j := by rw [h32, vN_nI (by omega)]
  conv => lhs; unfold mDropL
  rw [v33, if_pos ⟨h33, by omega, h13, hC⟩, if_neg (by omega), show p + 1 - 1 = p by omega, v32, if_pos ⟨h32, hj⟩, if_neg hd]
end LF
