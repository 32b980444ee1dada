/-! The invariant: an object comes; a capability is moved. -/
section KZ
variable {z : xzs} {W : kW} {h : xH} {c : mS} {n : Nat}
theorem mLeft_zero {c : mS} {o : Int32} : ∀ m : Nat, (∀ k, 1 ≤ k → k ≤ m → ¬ c 8 k = o) → mLeft c o m = 0
  | 0, _ => rfl
  | m + 1, hh => by
    unfold mLeft
    rw [mLeft_zero m (fun k k1 k2 => hh k k1 (by omega)), if_neg (fun w => hh (m + 1) (by omega) (Nat.le_refl _) w.2)]
theorem kMd_zero {c : mS} {o : Nat} : ∀ m : Nat, (∀ k, k < m → ¬ c 5 (10 + k) = nI o) → kMd c o m = 0
  | 0, _ => rfl
  | m + 1, hh => by
    unfold kMd
    rw [kMd_zero m (fun k k2 => hh k (by omega)), if_neg (fun w => hh m (by omega) w.2)]
section RET
variable {x o : Nat} {k : Int32}
theorem kRet_ne {f y : Nat} (hy : y ≠ x) (h3 : ¬ (f = 3 ∧ y = o)) (h6 : ¬ (f = 62 ∧ y = o)) (h7 : f ≠ 68) (h8 : f ≠ 69) : kRet1 c x k o f y = c f y := by
  unfold kRet1 kMkS
  rw [tNew_ne hy]
  simp only [sS_app, h3, h6, h7, h8, false_and, ↓reduceIte]
theorem kRet_fn {f : Nat} (h1 : f ≠ 1) (h2 : f ≠ 2) (h3 : f ≠ 3) (h4 : f ≠ 4) (h5 : f ≠ 5) (h6 : f ≠ 6) (h7 : f ≠ 61) (h8 : f ≠ 62) (h9 : f ≠ 69) (h10 : f ≠ 68) : kRet1 c x k o f = c f := by
  unfold kRet1 kMkS
  rw [tNew_fn h1 h2 h3 h4 h5 h6 h7 h8, sS_fn h8, sS_fn h10, sS_fn h9, sS_fn h3]
theorem kRet_68 : kRet1 c x k o 68 0 = c 68 0 + 1 := by
  simp only [kRet1, kMkS, tNew, sS_app, Nat.reduceEqDiff, false_and, and_self, ↓reduceIte]
theorem kRet_69 : kRet1 c x k o 69 0 = c 69 0 + 1 := by
  simp only [kRet1, kMkS, tNew, sS_app, Nat.reduceEqDiff, false_and, and_self, ↓reduceIte]
theorem kRet_62 (hx : o ≠ x) : kRet1 c x k o 62 o = c 62 o + 1 := by
  simp only [kRet1, kMkS, tNew, sS_app, Nat.reduceEqDiff, false_and, and_self, ↓reduceIte, hx, and_false]
theorem kRet_3 (hx : o ≠ x) : kRet1 c x k o 3 o = c 3 o + mTakes k := by
  simp only [kRet1, kMkS, tNew, sS_app, Nat.reduceEqDiff, false_and, and_self, ↓reduceIte, hx, and_false]
theorem kRet_x1 : kRet1 c x k o 1 x = k := by
  simp only [kRet1, kMkS, tNew, sS_app, Nat.reduceEqDiff, false_and, and_self, ↓reduceIte]
theorem kRet_x2 : kRet1 c x k o 2 x = mSizeK k := by
  simp only [kRet1, kMkS, tNew, sS_app, Nat.reduceEqDiff, false_and, and_self, ↓reduceIte]
theorem kRet_x3 : kRet1 c x k o 3 x = 0 := by
  simp only [kRet1, kMkS, tNew, sS_app, Nat.reduceEqDiff, false_and, and_self, ↓reduceIte]
theorem kRet_x5 : kRet1 c x k o 5 x = nI o := by
  simp only [kRet1, kMkS, tNew, sS_app, Nat.reduceEqDiff, false_and, and_self, ↓reduceIte]
theorem kRet_x6 : kRet1 c x k o 6 x = 1 := by
  simp only [kRet1, kMkS, tNew, sS_app, Nat.reduceEqDiff, false_and, and_self, ↓reduceIte]
theorem kRet_x61 : kRet1 c x k o 61 x = 0 := by
  simp only [kRet1, kMkS, tNew, sS_app, Nat.reduceEqDiff, false_and, and_self, ↓reduceIte]
theorem kRet_x62 : kRet1 c x k o 62 x = 0 := by
  simp only [kRet1, kMkS, tNew, sS_app, Nat.reduceEqDiff, false_and, and_self, ↓reduceIte]
end RET
theorem jA_ret (J : jA W c n) (hT : kT W < 50) {o : Nat} {k : Int32} (a : Nat) (o1 : 5 ≤ o) (o2 : o < kT W) (hs : ¬ c 2 o < c 3 o + mTakes k) : jA (wT W a) (kRet1 c (kT W) k o) n := by
  obtain ⟨⟨b1, b2, b3, b4⟩, j1, j2, j3, j4, j5, j6, j7, j8, j9⟩ := J
  have e1 : kT (wT W a) = kT W + 1 := rfl
  have e2 : kC (wT W a) = kC W := rfl
  have fn := fun f h1 h2 h3 h4 h5 h6 h7 h8 h9 h10 => kRet_fn (c := c) (x := kT W) (o := o) (k := k) (f := f) h1 h2 h3 h4 h5 h6 h7 h8 h9 h10
  have e14 := fn 14 (by decide) (by decide) (by decide) (by decide) (by decide) (by decide) (by decide) (by decide) (by decide) (by decide)
  have e12 := fn 12 (by decide) (by decide) (by decide) (by decide) (by decide) (by decide) (by decide) (by decide) (by decide) (by decide)
  have e64 := fn 64 (by decide) (by decide) (by decide) (by decide) (by decide) (by decide) (by decide) (by decide) (by decide) (by decide)
  have e65 := fn 65 (by decide) (by decide) (by decide) (by decide) (by decide) (by decide) (by decide) (by decide) (by decide) (by decide)
  have e8 := fn 8 (by decide) (by decide) (by decide) (by decide) (by decide) (by decide) (by decide) (by decide) (by decide) (by decide)
  have e9 := fn 9 (by decide) (by decide) (by decide) (by decide) (by decide) (by decide) (by decide) (by decide) (by decide) (by decide)
  have e11 := fn 11 (by decide) (by decide) (by decide) (by decide) (by decide) (by decide) (by decide) (by decide) (by decide) (by decide)
  have e70 := fn 70 (by decide) (by decide) (by decide) (by decide) (by decide) (by decide) (by decide) (by decide) (by decide) (by decide)
  have e71 := fn 71 (by decide) (by decide) (by decide) (by decide) (by decide) (by decide) (by decide) (by decide) (by decide) (by decide)
  have k1ne : ∀ y, y < kT W → kRet1 c (kT W) k o 1 y = c 1 y := fun y hy => kRet_ne (by omega) (by omega) (by omega) (by decide) (by decide)
  refine ⟨by rw [e1, e2]; omega, ?_, ?_, ?_, ?_, ?_, ?_, ?_, ?_, ?_⟩
  · intro q q1
    rw [e14, e12, e64, e65, e1, e2]
    rcases j1 q q1 with w | ⟨k', r1, r2, r3, r4, r5, r6, r7, r8⟩
    · exact Or.inl w
    · exact Or.inr ⟨k', r1, r2, r3, r4, r5, r6, by omega, by rw [k1ne _ r7]; exact r8⟩
  · intro k' r1 r2 r3
    rw [e12] at r3
    rw [e14]
    exact j2 k' r1 r2 r3
  · intro k' r1 r2
    rw [e8, e11, e9, e12, e64, e1]
    obtain ⟨⟨o', s1, s2, s3⟩, s4, s5, s6, s7⟩ := j3 k' r1 r2
    exact ⟨⟨o', s1, by omega, s3⟩, s4, s5, s6, isN_mono s7 (by omega)⟩
  · intro k' hk
    rw [e8, e11, e12]
    exact j4 k' hk
  · obtain ⟨⟨l1, l2, l3, l4, l5, l6⟩, m1, m2⟩ := j5
    unfold jA5 kLs
    rw [e71, e70, e12]
    exact ⟨⟨l1, l2, l3, l4, l5, l6⟩, m1, m2⟩
  · intro y hy
    rw [e2]
    have hL : mLeft (kRet1 c (kT W) k o) (nI y) (kC W) = mLeft c (nI y) (kC W) := mLeft_cg _ (fun k' _ _ => ⟨by rw [e12], by rw [e8]⟩)
    rw [hL]
    by_cases e : y = kT W
    · rw [e, kRet_x61, mLeft_zero, nI_0]
      intro k' r1 r2 r3
      obtain ⟨⟨o', s1, s2, s3⟩, -⟩ := j3 k' r1 r2
      rw [s1] at r3
      have := (nI_eq (by omega) (by omega)).mp r3
      omega
    · have hy : y < kT W + 1 := hy
      rw [kRet_ne e (by omega) (by omega) (by decide) (by decide)]
      exact j6 y (by omega)
  · intro y hy
    by_cases e : y = kT W
    · rw [e, kRet_x5]
      exact ⟨fun w => by omega, fun _ => ⟨o, o1, o2, rfl⟩⟩
    · have hy : y < kT W + 1 := hy
      rw [kRet_ne e (by omega) (by omega) (by decide) (by decide)]
      exact j7 y (by omega)
  · obtain ⟨m1, m2, m3⟩ := j8
    have et : kT (wT W a) - 10 = (kT W - 10) + 1 := by rw [e1]; omega
    have ex : 10 + (kT W - 10) = kT W := by omega
    have hM : ∀ y, kMd (kRet1 c (kT W) k o) y (kT W - 10) = kMd c y (kT W - 10) := fun y => kMd_congr _ (fun i hi => ⟨kRet_ne (by omega) (by omega) (by omega) (by decide) (by decide), kRet_ne (by omega) (by omega) (by omega) (by decide) (by decide)⟩)
    have hH : mTh (kRet1 c (kT W) k o) (kT W - 10) = mTh c (kT W - 10) := mTh_congr _ (fun i hi => kRet_ne (by omega) (by omega) (by omega) (by decide) (by decide))
    refine ⟨fun y hy => ?_, ?_, ?_⟩
    · rw [et]
      unfold kMd
      rw [ex, kRet_x6, kRet_x5, hM]
      by_cases e : y = kT W
      · rw [e, kRet_x62, kMd_zero, if_neg (fun w => by have := (nI_eq (by omega) (by omega)).mp w.2; omega), nI_0]
        intro i hi w
        obtain ⟨o', s1, s2, s3⟩ := (j7 (10 + i) (by omega)).2 (by omega)
        rw [s3] at w
        have := (nI_eq (by omega) (by omega)).mp w
        omega
      · have hy : y < kT W + 1 := hy
        by_cases e' : y = o
        · subst e'
          rw [kRet_62 (by omega), if_pos ⟨by decide, rfl⟩, m1 y o2, nI_1]
        · rw [kRet_ne e (by omega) (by omega) (by decide) (by decide), if_neg (fun w => e' ((nI_eq (by omega) (by omega)).mp w.2).symm)]
          exact m1 y (by omega)
    · rw [et]
      unfold mTh
      rw [ex, kRet_x6, if_neg (by decide), hH, kRet_68, m2, nI_1]
    · rw [et, kRet_69, m3, nI_1]
  · obtain ⟨m1, m2, m3, m4, m5⟩ := j9
    refine ⟨fun y hy => ?_, ?_, ?_, fun t t1 t2 => ?_, fun y hy w => ?_⟩
    · by_cases e : y = kT W
      · rw [e]
        unfold kUs
        rw [kRet_x2, kRet_x3]
        by_cases r : k = 0
        · exact ⟨4, 0, if_pos r, rfl, by decide, by decide⟩
        · exact ⟨0, 0, if_neg r, rfl, by decide, by decide⟩
      · have hy : y < kT W + 1 := hy
        by_cases e' : y = o
        · subst e'
          obtain ⟨sz, us, u1, u2, u3, u4⟩ := m1 y o2
          obtain ⟨tk, v1, v2⟩ : ∃ tk, mTakes k = nI tk ∧ tk ≤ 4 := by
            by_cases r : k = 0 ∨ k = nI 3
            · exact ⟨4, if_pos r, by decide⟩
            · exact ⟨1, if_neg r, by decide⟩
          rw [u1, u2, v1, nI_add] at hs
          have hs2 : ¬ sz < us + tk := fun w => hs (nI_lt w (by omega))
          unfold kUs
          rw [kRet_3 (by omega), kRet_ne (by omega) (by omega) (by omega) (by decide) (by decide), u1, u2, v1, nI_add]
          exact ⟨sz, us + tk, rfl, rfl, by omega, u4⟩
        · unfold kUs
          rw [kRet_ne e (by omega) (by omega) (by decide) (by decide), kRet_ne e (by omega) (by omega) (by decide) (by decide)]
          exact m1 y (by omega)
    · rw [k1ne _ (by omega)]; exact m2
    · rw [k1ne _ (by omega)]; exact m3
    · rw [k1ne _ (by omega)]; exact m4 t t1 t2
    · by_cases e : y = kT W
      · exact Or.inr (by omega)
      · have hy : y < kT W + 1 := hy
        rw [k1ne _ (by omega)] at w
        exact m5 y (by omega) w
theorem jA6_of {c' : mS} (h61 : c' 61 = c 61) (h12 : c' 12 = c 12) (h8 : c' 8 = c 8) (J : jA6 W c) : jA6 W c' := by
  intro o ho
  rw [h61, mLeft_cg (c := c) _ (fun k _ _ => ⟨by rw [h12], by rw [h8]⟩)]
  exact J o ho
theorem jA8_of {c' : mS} (h62 : c' 62 = c 62) (h68 : c' 68 = c 68) (h69 : c' 69 = c 69) (h5 : c' 5 = c 5) (h6 : c' 6 = c 6) (J : jA8 W c) : jA8 W c' := by
  refine ⟨fun o ho => ?_, ?_, ?_⟩
  · rw [h62, kMd_congr (c := c) _ (fun k _ => ⟨by rw [h6], by rw [h5]⟩)]
    exact J.1 o ho
  · rw [h68, mTh_congr (c := c) _ (fun k _ => by rw [h6])]
    exact J.2.1
  · rw [h69]
    exact J.2.2
/-- what does not touch capabilities and objects keeps the invariant -/
theorem jA_of {c' : mS} (J : jA W c n) (h1 : c' 1 = c 1) (h2 : c' 2 = c 2) (h3 : c' 3 = c 3) (h5 : c' 5 = c 5) (h6 : c' 6 = c 6) (h8 : c' 8 = c 8) (h9 : c' 9 = c 9) (h11 : c' 11 = c 11) (h12 : c' 12 = c 12) (h14 : c' 14 = c 14) (h61 : c' 61 = c 61) (h62 : c' 62 = c 62) (h64 : c' 64 = c 64) (h65 : c' 65 = c 65) (h68 : c' 68 = c 68) (h69 : c' 69 = c 69) (h70 : c' 70 = c 70) (h71 : c' 71 = c 71) : jA W c' n := by
  obtain ⟨b, j1, j2, j3, j4, j5, j6, j7, j8, j9⟩ := J
  refine ⟨b, ?_, ?_, ?_, ?_, ?_, jA6_of h61 h12 h8 j6, ?_, jA8_of h62 h68 h69 h5 h6 j8, ?_⟩
  · unfold jA1; rw [h14, h12, h64, h65, h1]; exact j1
  · unfold jA2; rw [h14, h12]; exact j2
  · unfold jA3; rw [h8, h11, h9, h12, h64]; exact j3
  · unfold jA4; rw [h8, h11, h12]; exact j4
  · unfold jA5 kLs; rw [h70, h71, h12]; exact j5
  · unfold jA7; rw [h5]; exact j7
  · unfold jA9 kUs; rw [h1, h2, h3]; exact j9
-- move
theorem kMv_ne {f k j o' i' o i : Nat} (h1 : f ≠ 14) (h2 : ¬ (f = 64 ∧ k = j)) (h3 : ¬ (f = 65 ∧ k = j)) : kMvS c j o' i' o i f k = c f k := by
  simp only [kMvS, sS_app, h1, h2, h3, false_and, ↓reduceIte]
theorem kMv_14 {q j o' i' o i : Nat} : kMvS c j o' i' o i 14 q = if q = 8 * o + i then nI j else if q = 8 * o' + i' then 0 else c 14 q := by
  simp only [kMvS, sS_app, Nat.reduceEqDiff, true_and, false_and, ↓reduceIte]
theorem kMv_64 {j o' i' o i : Nat} : kMvS c j o' i' o i 64 j = nI (o + 1) := by
  simp only [kMvS, sS_app, Nat.reduceEqDiff, and_self, false_and, ↓reduceIte]
theorem kMv_65 {j o' i' o i : Nat} : kMvS c j o' i' o i 65 j = nI i := by
  simp only [kMvS, sS_app, Nat.reduceEqDiff, and_self, false_and, ↓reduceIte]
theorem jA_mv (J : jA W c n) {j o' i' o i : Nat} (j1' : 1 ≤ j) (j2' : j ≤ kC W) (jl : ¬ c 12 j = 0) (S : kS1 W c j o' i') (ho : o < kT W) (hi : i < 8) (hk : c 1 o = nI 3) (hf : c 14 (8 * o + i) = 0) : jA W (kMvS c j o' i' o i) n := by
  have J0 := J
  obtain ⟨⟨b1, b2, b3, b4⟩, j1, j2, j3, j4, j5, j6, j7, j8, j9⟩ := J
  obtain ⟨s1, s2, s3, s4, s5, s6⟩ := S
  have hjn : ¬ nI j = 0 := nI_ne0 j1' (by omega)
  refine ⟨⟨b1, b2, b3, b4⟩, ?_, ?_, ?_, j4, j5, jA6_of (c := c) rfl rfl rfl j6, j7, jA8_of (c := c) rfl rfl rfl rfl rfl j8, j9⟩
  · intro q q1
    rw [kMv_14]
    by_cases e : q = 8 * o + i
    · rw [if_pos e]
      refine Or.inr ⟨j, j1', j2', rfl, jl, ?_, ?_, by omega, ?_⟩
      · rw [kMv_64, e, show (8 * o + i) / 8 = o by omega]
      · rw [kMv_65, e, show (8 * o + i) % 8 = i by omega]
      · rw [e, show (8 * o + i) / 8 = o by omega]
        exact hk
    · rw [if_neg e]
      by_cases e' : q = 8 * o' + i'
      · rw [if_pos e']
        exact Or.inl rfl
      · rw [if_neg e']
        rcases j1 q q1 with w | ⟨k, k1, k2, k3, k4, k5, k6, k7, k8⟩
        · exact Or.inl w
        · have hkj : k ≠ j := by
            intro w
            subst w
            rw [s4] at k5
            rw [s5] at k6
            have u1 := (nI_eq (by omega) (by omega)).mp k5
            have u2 := (nI_eq (by omega) (by omega)).mp k6
            omega
          exact Or.inr ⟨k, k1, k2, k3, k4, by rw [kMv_ne (by decide) (by omega) (by omega)]; exact k5, by rw [kMv_ne (by decide) (by omega) (by omega)]; exact k6, k7, k8⟩
  · intro k k1 k2 k3
    by_cases e : k = j
    · exact ⟨8 * o + i, by omega, by rw [kMv_14, if_pos rfl, e]⟩
    · obtain ⟨q, q1, q2⟩ := j2 k k1 k2 k3
      refine ⟨q, q1, ?_⟩
      rw [kMv_14, if_neg (fun w => by rw [w, hf] at q2; exact nI_ne0 k1 (by omega) q2.symm), if_neg (fun w => by rw [w, s6] at q2; exact e ((nI_eq (by omega) (by omega)).mp q2).symm)]
      exact q2
  · intro k k1 k2
    obtain ⟨w1, w2, w3, w4, w5⟩ := j3 k k1 k2
    refine ⟨w1, w2, w3, w4, ?_⟩
    by_cases e : k = j
    · rw [e, kMv_64]
      exact isN_nI (by omega) (by omega)
    · rw [kMv_ne (by decide) (by omega) (by omega)]
      exact w5
end KZ
