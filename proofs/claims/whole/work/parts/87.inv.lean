/-! THE CLASS'S INVARIANT: capabilities and objects. -/
def kMd (c : mS) (o : Nat) : Nat → Nat
  | 0 => 0
  | k + 1 => kMd c o k + (if ¬ c 6 (10 + k) = 0 ∧ c 5 (10 + k) = nI o then 1 else 0)
def jA1 (W : kW) (c : mS) : Prop := ∀ q, q < 400 → c 14 q = 0 ∨ ∃ k, 1 ≤ k ∧ k ≤ kC W ∧ c 14 q = nI k ∧ ¬ c 12 k = 0 ∧ c 64 k = nI (q / 8 + 1) ∧ c 65 k = nI (q % 8) ∧ q / 8 < kT W ∧ c 1 (q / 8) = nI 3
def jA2 (W : kW) (c : mS) : Prop := ∀ k, 1 ≤ k → k ≤ kC W → ¬ c 12 k = 0 → ∃ q, q < 400 ∧ c 14 q = nI k
def jA3 (W : kW) (c : mS) : Prop := ∀ k, 1 ≤ k → k ≤ kC W → (∃ o, c 8 k = nI o ∧ o < kT W ∧ (o < 2 ∨ 5 ≤ o)) ∧ isN (c 11 k) k ∧ isN (c 9 k) 8 ∧ (c 12 k = 0 ∨ c 12 k = 1) ∧ isN (c 64 k) (kT W + 1)
def jA4 (W : kW) (c : mS) : Prop := ∀ k, k = 0 ∨ kC W < k → c 8 k = 0 ∧ c 11 k = 0 ∧ c 12 k = 0
def jA5 (W : kW) (c : mS) (n : Nat) : Prop := kLs W c n ∧ (∀ i i', i < i' → i' < n → vN (c 70 i) < vN (c 70 i')) ∧ ∀ k, 1 ≤ k → k ≤ kC W → (¬ c 12 k = 0 ↔ ∃ i, i < n ∧ c 70 i = nI k)
def jA6 (W : kW) (c : mS) : Prop := ∀ o, o < kT W → c 61 o = nI (mLeft c (nI o) (kC W))
def jA7 (W : kW) (c : mS) : Prop := ∀ o, o < kT W → (o < 10 → c 5 o = 0) ∧ (10 ≤ o → ∃ o', 5 ≤ o' ∧ o' < o ∧ c 5 o = nI o')
def jA8 (W : kW) (c : mS) : Prop := (∀ o, o < kT W → c 62 o = nI (kMd c o (kT W - 10))) ∧ c 68 0 = nI (mTh c (kT W - 10)) ∧ c 69 0 = nI (kT W - 10)
def jA9 (W : kW) (c : mS) : Prop := (∀ o, o < kT W → kUs c o) ∧ c 1 0 = 1 ∧ c 1 1 = 1 ∧ (∀ t, 1 ≤ t → t < 4 → c 1 (1 + t) = nI 3) ∧ ∀ o, o < kT W → c 1 o = nI 3 → (2 ≤ o ∧ o < 5) ∨ 10 ≤ o
def jA (W : kW) (c : mS) (n : Nat) : Prop := (10 ≤ kT W ∧ kT W ≤ 50 ∧ kC W < 1200 ∧ n ≤ kC W) ∧ jA1 W c ∧ jA2 W c ∧ jA3 W c ∧ jA4 W c ∧ jA5 W c n ∧ jA6 W c ∧ jA7 W c ∧ jA8 W c ∧ jA9 W c
section KY
variable {z : xzs} {W : kW} {h : xH} {c : mS} {n : Nat}
theorem jA.wf (J : jA W c n) : kWf W c := by
  obtain ⟨⟨b1, b2, b3, b4⟩, j1, j2, j3, j4, j5, j6, j7, j8, j9⟩ := J
  refine ⟨⟨b1, b2, b3⟩, fun i hi => ?_, fun k k1 k2 => ?_, fun k k1 k2 => (j3 k k1 k2).2.1, j9.2.2.2.1⟩
  · rcases j1 i hi with e | ⟨k, k1, k2, e, -⟩
    · rw [e]; exact isN_nI (n := 0) (by omega) (by omega)
    · rw [e]; exact isN_nI (by omega) (by omega)
  · obtain ⟨⟨o, e, ho, -⟩, -⟩ := j3 k k1 k2
    rw [e]; exact isN_nI ho (by omega)
theorem jA.ls (J : jA W c n) : kLs W c n := J.2.2.2.2.2.1.1
theorem jA.up (J : jA W c n) : kUP W c n := ⟨J.ls, fun k k1 k2 => (J.2.2.2.1 k k1 k2).2.1⟩
theorem jA.rf (J : jA W c n) (G : ∀ t, 1 ≤ t → t < 4 → vN (c 26 t) ≤ kC W) : kRf W c := by
  have F := J.wf
  refine ⟨fun i hi => by have := (F.2.1 i hi).2; omega, fun i => ?_, fun k k1 k2 => by have := (F.2.2.2.1 k k1 k2).2; omega, G, F.1.2.1⟩
  rcases Nat.lt_or_ge i n with q | q
  · have := (J.ls.2.2.2.2.1 i q).1.2
    omega
  · rw [J.ls.2.2.2.2.2 i q]
    exact Nat.zero_le _
theorem jA.rg (J : jA W c n) (B : ∀ t, 1 ≤ t → t < 4 → vN (c 52 t) ≤ kT W ∧ vN (c 56 t) ≤ kT W) (hT : kT W < 50) : kRg W c := by
  obtain ⟨⟨b1, b2, b3, b4⟩, j1, j2, j3, j4, j5, j6, j7, j8, j9⟩ := J
  refine ⟨B, fun k k1 k2 => ?_, fun o ho => ?_, b1, fun i hi => ?_⟩
  · obtain ⟨⟨o, e, ho, -⟩, -, -, -, q⟩ := j3 k k1 k2
    exact ⟨by have := q.2; omega, by rw [e, vN_nI (by omega)]; exact ho⟩
  · rcases Nat.lt_or_ge o 10 with q | q
    · rw [(j7 o ho).1 q]
      show (0 : Int32).toNatClampNeg < _
      have : (0 : Int32).toNatClampNeg = 0 := by decide
      omega
    · obtain ⟨o', h1, h2, h3⟩ := (j7 o ho).2 q
      rw [h3, vN_nI (by omega)]
      omega
  · rcases j1 (8 * kT W + i) (by omega) with e | ⟨k, k1, k2, e, -, -, -, q, -⟩
    · exact e
    · omega
/-- where a living capability stands -/
theorem jA.s1 (J : jA W c n) {k : Nat} (k1 : 1 ≤ k) (k2 : k ≤ kC W) (kl : ¬ c 12 k = 0) : ∃ o i, kS1 W c k o i := by
  obtain ⟨⟨b1, b2, b3, b4⟩, j1, j2, j3, j4, j5, j6, j7, j8, j9⟩ := J
  obtain ⟨q, q1, q2⟩ := j2 k k1 k2 kl
  rcases j1 q q1 with e | ⟨k', p1, p2, p3, p4, p5, p6, p7, p8⟩
  · rw [q2] at e
    exact absurd e (nI_ne0 k1 (by omega))
  · rw [q2] at p3
    have := (nI_eq (a := k) (b := k') (by omega) (by omega)).mp p3
    subst this
    exact ⟨q / 8, q % 8, p7, Nat.mod_lt _ (by decide), p8, p5, p6, by rw [show 8 * (q / 8) + q % 8 = q by omega]; exact q2⟩
/-- a capability that stands in a slot lives -/
theorem jA.lv (J : jA W c n) {q k : Nat} (hq : q < 400) (k1 : 1 ≤ k) (k2 : k < 2 ^ 31) (e : c 14 q = nI k) : k ≤ kC W ∧ ¬ c 12 k = 0 ∧ c 64 k = nI (q / 8 + 1) ∧ c 65 k = nI (q % 8) ∧ q / 8 < kT W ∧ c 1 (q / 8) = nI 3 := by
  obtain ⟨⟨b1, b2, b3, b4⟩, j1, -⟩ := J
  rcases j1 q hq with e' | ⟨k', p1, p2, p3, p4, p5, p6, p7, p8⟩
  · rw [e] at e'
    exact absurd e' (nI_ne0 k1 k2)
  · rw [e] at p3
    have := (nI_eq (a := k) (b := k') (by omega) (by omega)).mp p3
    subst this
    exact ⟨p2, p4, p5, p6, p7, p8⟩
theorem mLeft_cg {c c' : mS} {o : Int32} : ∀ m : Nat, (∀ k, 1 ≤ k → k ≤ m → c' 12 k = c 12 k ∧ c' 8 k = c 8 k) → mLeft c' o m = mLeft c o m
  | 0, _ => rfl
  | m + 1, hh => by
    unfold mLeft
    rw [mLeft_cg m (fun k k1 k2 => hh k k1 (by omega)), (hh (m + 1) (by omega) (Nat.le_refl _)).1, (hh (m + 1) (by omega) (Nat.le_refl _)).2]
theorem kMd_congr {c c' : mS} {o : Nat} : ∀ m : Nat, (∀ k, k < m → c' 6 (10 + k) = c 6 (10 + k) ∧ c' 5 (10 + k) = c 5 (10 + k)) → kMd c' o m = kMd c o m
  | 0, _ => rfl
  | m + 1, hh => by
    unfold kMd
    rw [kMd_congr m (fun k k2 => hh k (by omega)), (hh m (by omega)).1, (hh m (by omega)).2]
theorem mTh_congr {c c' : mS} : ∀ m : Nat, (∀ k, k < m → c' 6 (10 + k) = c 6 (10 + k)) → mTh c' m = mTh c m
  | 0, _ => rfl
  | m + 1, hh => by
    unfold mTh
    rw [mTh_congr m (fun k k2 => hh k (by omega)), hh m (by omega)]
theorem isN_mono {x : Int32} {a b : Nat} (h1 : isN x a) (h2 : a ≤ b) : isN x b := ⟨h1.1, by have := h1.2; omega⟩
section DER
variable {N th o i : Nat} {r b p : Int32}
theorem kDer_ne {f k : Nat} (hk : k ≠ N) (h1 : f ≠ 14) (h2 : f ≠ 61) (h3 : f ≠ 70) (h4 : f ≠ 71) (h5 : f ≠ 72) : kDerS c N th r b p o i n f k = c f k := by
  simp only [kDerS, kPutS, kLadd, cNew, sS_app, hk, h1, h2, h3, h4, h5, and_false, false_and, ↓reduceIte]
theorem kDer_14 {q : Nat} : kDerS c N th r b p o i n 14 q = if q = 8 * o + i then nI N else c 14 q := by
  simp only [kDerS, kPutS, kLadd, cNew, sS_app, Nat.reduceEqDiff, true_and, false_and, ↓reduceIte]
theorem kDer_61 {x : Nat} : kDerS c N th r b p o i n 61 x = if x = th then c 61 th + 1 else c 61 x := by
  simp only [kDerS, kPutS, kLadd, cNew, sS_app, Nat.reduceEqDiff, true_and, false_and, ↓reduceIte]
theorem kDer_70 {x : Nat} : kDerS c N th r b p o i n 70 x = if x = n then nI N else c 70 x := by
  simp only [kDerS, kPutS, kLadd, cNew, sS_app, Nat.reduceEqDiff, true_and, false_and, ↓reduceIte]
theorem kDer_71 : kDerS c N th r b p o i n 71 0 = c 71 0 + 1 := by
  simp only [kDerS, kPutS, kLadd, cNew, sS_app, Nat.reduceEqDiff, true_and, false_and, ↓reduceIte]
theorem kDer_8 : kDerS c N th r b p o i n 8 N = nI th := by
  simp only [kDerS, kPutS, kLadd, cNew, sS_app, Nat.reduceEqDiff, and_self, true_and, false_and, ↓reduceIte]
theorem kDer_9 : kDerS c N th r b p o i n 9 N = r := by
  simp only [kDerS, kPutS, kLadd, cNew, sS_app, Nat.reduceEqDiff, and_self, true_and, false_and, ↓reduceIte]
theorem kDer_10 : kDerS c N th r b p o i n 10 N = b := by
  simp only [kDerS, kPutS, kLadd, cNew, sS_app, Nat.reduceEqDiff, and_self, true_and, false_and, ↓reduceIte]
theorem kDer_11 : kDerS c N th r b p o i n 11 N = p := by
  simp only [kDerS, kPutS, kLadd, cNew, sS_app, Nat.reduceEqDiff, and_self, true_and, false_and, ↓reduceIte]
theorem kDer_12 : kDerS c N th r b p o i n 12 N = 1 := by
  simp only [kDerS, kPutS, kLadd, cNew, sS_app, Nat.reduceEqDiff, and_self, true_and, false_and, ↓reduceIte]
theorem kDer_64 : kDerS c N th r b p o i n 64 N = nI (o + 1) := by
  simp only [kDerS, kPutS, kLadd, cNew, sS_app, Nat.reduceEqDiff, and_self, true_and, false_and, ↓reduceIte]
theorem kDer_65 : kDerS c N th r b p o i n 65 N = nI i := by
  simp only [kDerS, kPutS, kLadd, cNew, sS_app, Nat.reduceEqDiff, and_self, true_and, false_and, ↓reduceIte]
end DER
/-- a capability comes -/
theorem jA_der {c' : mS} (J : jA W c n) {W' : kW} {th o i : Nat} {r b p : Int32} (D : kAdd1 W c n th r b p o i W' c') (hC : kC W + 1 < 1200) (hth : th < 2 ∨ 5 ≤ th) (hr : isN r 8) (hp : isN p (kC W + 1)) (hcap : kcap W' ≤ 40000) (hcap2 : 2 ≤ kcap W') : jA W' c' (n + 1) := by
  obtain ⟨⟨b1, b2, b3, b4⟩, j1, j2, j3, j4, j5, j6, j7, j8, j9⟩ := J
  obtain ⟨d1, d2, d3, d4, d5, d6, d7, d8, d9⟩ := D
  subst d9
  have hq : 8 * o + i < 400 := by omega
  refine ⟨by rw [d6, d7]; omega, ?_, ?_, ?_, ?_, ?_, ?_, ?_, ?_, ?_⟩
  · intro q q1
    rw [d7, d6, kDer_14]
    by_cases e : q = 8 * o + i
    · rw [if_pos e]
      refine Or.inr ⟨kC W + 1, by omega, Nat.le_refl _, rfl, by rw [kDer_12]; decide, ?_, ?_, by omega, ?_⟩
      · rw [kDer_64, e, show (8 * o + i) / 8 = o by omega]
      · rw [kDer_65, e, show (8 * o + i) % 8 = i by omega]
      · rw [e, show (8 * o + i) / 8 = o by omega]
        exact d4
    · rw [if_neg e]
      rcases j1 q q1 with w | ⟨k, k1, k2, k3, k4, k5, k6, k7, k8⟩
      · exact Or.inl w
      · have hk : k ≠ kC W + 1 := by omega
        refine Or.inr ⟨k, k1, by omega, k3, ?_, ?_, ?_, k7, k8⟩
        · rw [kDer_ne hk (by decide) (by decide) (by decide) (by decide) (by decide)]; exact k4
        · rw [kDer_ne hk (by decide) (by decide) (by decide) (by decide) (by decide)]; exact k5
        · rw [kDer_ne hk (by decide) (by decide) (by decide) (by decide) (by decide)]; exact k6
  · intro k k1 k2 kl
    rw [d7] at k2
    by_cases hk : k = kC W + 1
    · exact ⟨8 * o + i, hq, by rw [kDer_14, if_pos rfl, hk]⟩
    · rw [kDer_ne hk (by decide) (by decide) (by decide) (by decide) (by decide)] at kl
      obtain ⟨q, q1, q2⟩ := j2 k k1 (by omega) kl
      refine ⟨q, q1, ?_⟩
      rw [kDer_14, if_neg (fun w => by rw [w, d5] at q2; exact nI_ne0 k1 (by omega) q2.symm)]
      exact q2
  · intro k k1 k2
    rw [d7] at k2
    rw [d6]
    by_cases hk : k = kC W + 1
    · subst hk
      rw [kDer_8, kDer_11, kDer_9, kDer_12, kDer_64]
      exact ⟨⟨th, rfl, d1, hth⟩, hp, hr, Or.inr rfl, isN_nI (by omega) (by omega)⟩
    · have e := fun f h1 h2 h3 h4 h5 => kDer_ne (c := c) (n := n) (N := kC W + 1) (th := th) (o := o) (i := i) (r := r) (b := b) (p := p) (f := f) hk h1 h2 h3 h4 h5
      rw [e 8 (by decide) (by decide) (by decide) (by decide) (by decide), e 11 (by decide) (by decide) (by decide) (by decide) (by decide), e 9 (by decide) (by decide) (by decide) (by decide) (by decide), e 12 (by decide) (by decide) (by decide) (by decide) (by decide), e 64 (by decide) (by decide) (by decide) (by decide) (by decide)]
      exact j3 k k1 (by omega)
  · intro k hk
    rw [d7] at hk
    have hk2 : k ≠ kC W + 1 := by omega
    have e := fun f h1 h2 h3 h4 h5 => kDer_ne (c := c) (n := n) (N := kC W + 1) (th := th) (o := o) (i := i) (r := r) (b := b) (p := p) (f := f) hk2 h1 h2 h3 h4 h5
    rw [e 8 (by decide) (by decide) (by decide) (by decide) (by decide), e 11 (by decide) (by decide) (by decide) (by decide) (by decide), e 12 (by decide) (by decide) (by decide) (by decide) (by decide)]
    exact j4 k (by omega)
  · obtain ⟨⟨l1, l2, l3, l4, l5, l6⟩, m1, m2⟩ := j5
    refine ⟨⟨?_, d8, hcap2, hcap, fun u hu => ?_, fun u hu => ?_⟩, fun u u' h1 h2 => ?_, fun k k1 k2 => ?_⟩
    · rw [kDer_71, l1, nI_1]
    · rw [kDer_70, d7]
      by_cases e : u = n
      · rw [if_pos e, vN_nI (by omega)]
        exact ⟨isN_nI (by omega) (by omega), by omega⟩
      · rw [if_neg e]
        exact ⟨isN_mono (l5 u (by omega)).1 (by omega), (l5 u (by omega)).2⟩
    · rw [kDer_70, if_neg (by omega)]
      exact l6 u (by omega)
    · rw [kDer_70, kDer_70, if_neg (show ¬ u = n by omega)]
      by_cases e : u' = n
      · rw [if_pos e, vN_nI (by omega)]
        have := (l5 u (by omega)).1.2
        omega
      · rw [if_neg e]
        exact m1 u u' h1 (by omega)
    · rw [d7] at k2
      by_cases hk : k = kC W + 1
      · subst hk
        rw [kDer_12]
        exact ⟨fun _ => ⟨n, by omega, by rw [kDer_70, if_pos rfl]⟩, fun _ => by decide⟩
      · rw [kDer_ne hk (by decide) (by decide) (by decide) (by decide) (by decide), m2 k k1 (by omega)]
        constructor
        · rintro ⟨u, u1, u2⟩
          exact ⟨u, by omega, by rw [kDer_70, if_neg (by omega)]; exact u2⟩
        · rintro ⟨u, u1, u2⟩
          rw [kDer_70] at u2
          by_cases e : u = n
          · rw [if_pos e] at u2
            exact absurd ((nI_eq (by omega) (by omega)).mp u2).symm hk
          · rw [if_neg e] at u2
            exact ⟨u, by omega, u2⟩
  · intro x hx
    rw [d6] at hx
    rw [d7, kDer_61, mLeft_succ, kDer_12, kDer_8, mLeft_cg (c := c) _ (fun k k1 k2 => ⟨kDer_ne (by omega) (by decide) (by decide) (by decide) (by decide) (by decide), kDer_ne (by omega) (by decide) (by decide) (by decide) (by decide) (by decide)⟩)]
    by_cases e : x = th
    · subst e
      rw [if_pos rfl, if_pos ⟨by decide, rfl⟩, j6 x hx, nI_1]
    · rw [if_neg e, if_neg (fun w => e ((nI_eq (by omega) (by omega)).mp w.2).symm)]
      exact j6 x hx
  · intro x hx
    rw [d6] at hx
    exact j7 x hx
  · unfold jA8
    rw [d6]
    exact ⟨fun x hx => (j8.1 x hx).trans (by rw [kMd_congr (c := c) (c' := kDerS c (kC W + 1) th r b p o i n) _ (fun _ _ => ⟨rfl, rfl⟩)]), j8.2.1.trans (by rw [mTh_congr (c := c) (c' := kDerS c (kC W + 1) th r b p o i n) _ (fun _ _ => rfl)]), j8.2.2⟩
  · unfold jA9
    rw [d6]
    exact j9
end KY
