/-! The class: what unlist does to the list and the parents; the invariant once a capability is off. -/
section LD
variable {W : kW} {c : mS} {n : Nat}
theorem kUn_lo {j : Nat} : ∀ (m n : Nat) (c : mS), (∀ i, i < m → c 70 i = nI (vN (c 70 i)) ∧ vN (c 70 i) < 2 ^ 31) → (∀ i, i < m → ¬ c 70 i = nI j) → j < 2 ^ 31 → ¬ c 11 j = nI j → (∀ f, f ≠ 11 → kUn j m n c f = c f) ∧ ∀ k, ((∃ i, i < m ∧ vN (c 70 i) = k) → c 11 k = nI j → kUn j m n c 11 k = c 11 j) ∧ (¬ ((∃ i, i < m ∧ vN (c 70 i) = k) ∧ c 11 k = nI j) → kUn j m n c 11 k = c 11 k)
  | 0, n, c, _, _, _, _ => ⟨fun _ _ => rfl, fun k => ⟨fun ⟨i, h, _⟩ => by omega, fun _ => rfl⟩⟩
  | m + 1, n, c, h1, h2, h3, h4 => by
    have n1 := h2 m (Nat.lt_succ_self _)
    obtain ⟨p1, p2⟩ := h1 m (Nat.lt_succ_self _)
    have hej : vN (c 70 m) ≠ j := fun w => n1 (by rw [p1, w])
    unfold kUn
    rw [if_neg n1]
    by_cases q : c 11 (vN (c 70 m)) = nI j
    · rw [if_pos q]
      have cj : sS c 11 (vN (c 70 m)) (c 11 j) 11 j = c 11 j := by
        rw [sS_app, if_neg (fun w => hej w.2.symm)]
      obtain ⟨r1, r2⟩ := kUn_lo m n (sS c 11 (vN (c 70 m)) (c 11 j)) (fun i hi => h1 i (by omega)) (fun i hi => h2 i (by omega)) h3 (by rw [cj]; exact h4)
      refine ⟨fun f hf => (r1 f hf).trans (sS_fn hf), fun k => ?_⟩
      have ek : sS c 11 (vN (c 70 m)) (c 11 j) 11 k = if k = vN (c 70 m) then c 11 j else c 11 k := by
        rw [sS_app]; simp only [true_and]
      obtain ⟨s1, s2⟩ := r2 k
      by_cases e : k = vN (c 70 m)
      · have v : kUn j m n (sS c 11 (vN (c 70 m)) (c 11 j)) 11 k = c 11 j := by
          rw [s2 (fun w => by rw [ek, if_pos e] at w; exact h4 w.2), ek, if_pos e]
        refine ⟨fun _ _ => v, fun w => absurd ⟨⟨m, Nat.lt_succ_self _, e.symm⟩, by rw [e]; exact q⟩ w⟩
      · rw [ek, if_neg e, cj] at s1
        rw [ek, if_neg e] at s2
        refine ⟨fun ⟨i, i1, i2⟩ w => s1 ⟨i, by have : i ≠ m := fun y => e (by rw [← i2, y]); omega, i2⟩ w, fun w => s2 (fun ⟨⟨i, i1, i2⟩, y⟩ => w ⟨⟨i, by omega, i2⟩, y⟩)⟩
    · rw [if_neg q]
      obtain ⟨r1, r2⟩ := kUn_lo m n c (fun i hi => h1 i (by omega)) (fun i hi => h2 i (by omega)) h3 h4
      refine ⟨r1, fun k => ?_⟩
      obtain ⟨s1, s2⟩ := r2 k
      refine ⟨fun ⟨i, i1, i2⟩ w => ?_, fun w => s2 (fun ⟨⟨i, i1, i2⟩, y⟩ => w ⟨⟨i, by omega, i2⟩, y⟩)⟩
      by_cases e : i = m
      · subst e
        rw [i2] at q
        exact absurd w q
      · exact s1 ⟨i, by omega, i2⟩ w
theorem kRem_11 {p : Nat} : kRem c n p 11 = c 11 := by
  funext k
  simp only [kRem, sS_app, kShift, Nat.reduceEqDiff, false_and, ↓reduceIte]
theorem kRem_70 {p u : Nat} : kRem c n p 70 u = if u = n - 1 then 0 else if p ≤ u ∧ u < n - 1 then c 70 (u + 1) else c 70 u := by
  simp only [kRem, sS_app, kShift, Nat.reduceEqDiff, false_and, ↓reduceIte]
theorem kRem_s11 {p e : Nat} {v : Int32} {f : Nat} (hf : f ≠ 11) : kRem (sS c 11 e v) n p f = kRem c n p f := by
  funext u
  simp only [kRem, sS_app, kShift, hf, Nat.reduceEqDiff, false_and, ↓reduceIte]
theorem kUn_hi {j p n : Nat} : ∀ (m : Nat) (c : mS), p < m → m ≤ n → (∀ i, i < n → c 70 i = nI (vN (c 70 i)) ∧ vN (c 70 i) < 2 ^ 31) → (∀ i, i < n → (c 70 i = nI j ↔ i = p)) → j < 2 ^ 31 → ¬ c 11 j = nI j → (∀ f, f ≠ 11 → kUn j m n c f = kRem c n p f) ∧ ∀ k, ((∃ i, i < m ∧ i ≠ p ∧ vN (c 70 i) = k) → c 11 k = nI j → kUn j m n c 11 k = c 11 j) ∧ (¬ ((∃ i, i < m ∧ i ≠ p ∧ vN (c 70 i) = k) ∧ c 11 k = nI j) → kUn j m n c 11 k = c 11 k)
  | 0, c, hp, _, _, _, _, _ => by omega
  | m + 1, c, hp, hm, h1, h2, h3, h4 => by
    obtain ⟨p1, p2⟩ := h1 m (by omega)
    unfold kUn
    by_cases e0 : m = p
    · subst e0
      rw [if_pos ((h2 m (by omega)).mpr rfl)]
      have e70 : ∀ i, i < m → kRem c n m 70 i = c 70 i := fun i hi => by rw [kRem_70, if_neg (by omega), if_neg (by omega)]
      obtain ⟨r1, r2⟩ := kUn_lo (j := j) m (n - 1) (kRem c n m) (fun i hi => by rw [e70 i hi]; exact h1 i (by omega)) (fun i hi => by rw [e70 i hi]; exact fun w => by have := (h2 i (by omega)).mp w; omega) h3 (by rw [kRem_11]; exact h4)
      refine ⟨r1, fun k => ?_⟩
      obtain ⟨s1, s2⟩ := r2 k
      rw [kRem_11] at s1 s2
      refine ⟨fun ⟨i, i1, i2, i3⟩ w => s1 ⟨i, by omega, by rw [e70 i (by omega)]; exact i3⟩ w, fun w => s2 (fun ⟨⟨i, i1, i2⟩, y⟩ => w ⟨⟨i, by omega, by omega, by rw [e70 i i1] at i2; exact i2⟩, y⟩)⟩
    · have n1 : ¬ c 70 m = nI j := fun w => e0 ((h2 m (by omega)).mp w)
      have hej : vN (c 70 m) ≠ j := fun w => n1 (by rw [p1, w])
      rw [if_neg n1]
      by_cases q : c 11 (vN (c 70 m)) = nI j
      · rw [if_pos q]
        have cj : sS c 11 (vN (c 70 m)) (c 11 j) 11 j = c 11 j := by
          rw [sS_app, if_neg (fun w => hej w.2.symm)]
        obtain ⟨r1, r2⟩ := kUn_hi m (sS c 11 (vN (c 70 m)) (c 11 j)) (by omega) (by omega) h1 h2 h3 (by rw [cj]; exact h4)
        refine ⟨fun f hf => (r1 f hf).trans (kRem_s11 hf), fun k => ?_⟩
        have ek : sS c 11 (vN (c 70 m)) (c 11 j) 11 k = if k = vN (c 70 m) then c 11 j else c 11 k := by
          rw [sS_app]; simp only [true_and]
        obtain ⟨s1, s2⟩ := r2 k
        by_cases e : k = vN (c 70 m)
        · have v : kUn j m n (sS c 11 (vN (c 70 m)) (c 11 j)) 11 k = c 11 j := by
            rw [s2 (fun w => by rw [ek, if_pos e] at w; exact h4 w.2), ek, if_pos e]
          refine ⟨fun _ _ => v, fun w => absurd ⟨⟨m, Nat.lt_succ_self _, e0, e.symm⟩, by rw [e]; exact q⟩ w⟩
        · rw [ek, if_neg e, cj] at s1
          rw [ek, if_neg e] at s2
          refine ⟨fun ⟨i, i1, i0, i2⟩ w => s1 ⟨i, by have : i ≠ m := fun y => e (by rw [← i2, y]); omega, i0, i2⟩ w, fun w => s2 (fun ⟨⟨i, i1, i0, i2⟩, y⟩ => w ⟨⟨i, by omega, i0, i2⟩, y⟩)⟩
      · rw [if_neg q]
        obtain ⟨r1, r2⟩ := kUn_hi m c (by omega) (by omega) h1 h2 h3 h4
        refine ⟨r1, fun k => ?_⟩
        obtain ⟨s1, s2⟩ := r2 k
        refine ⟨fun ⟨i, i1, i0, i2⟩ w => ?_, fun w => s2 (fun ⟨⟨i, i1, i0, i2⟩, y⟩ => w ⟨⟨i, by omega, i0, i2⟩, y⟩)⟩
        by_cases e : i = m
        · subst e
          rw [i2] at q
          exact absurd w q
        · exact s1 ⟨i, by omega, i0, i2⟩ w
/-- the capability j is off: gone, out of its slot q and of the list -/
def kOff1 (c : mS) (j q : Nat) : mS := sS (sS (sS c 12 j 0) 14 q 0) 64 j 0
def kOff (c : mS) (j q p n C o : Nat) : mS := sS (kRem (mRep (kOff1 c j q) j C) n p) 61 o (c 61 o - 1)
theorem kUn_off (J : jA W c n) {j q p : Nat} (j1 : 1 ≤ j) (j2 : j ≤ kC W) (jl : ¬ c 12 j = 0) (hp : p < n) (hpj : c 70 p = nI j) : kUn j n n (kOff1 c j q) = kRem (mRep (kOff1 c j q) j (kC W)) n p := by
  obtain ⟨⟨b1, b2, b3, b4⟩, a1, a2, a3, a4, ⟨⟨l1, l2, l3, l4, l5, l6⟩, m1, m2⟩, a6, a7, a8, a9⟩ := J
  have hpar := (a3 j j1 j2).2.1
  have g70 : ∀ i, i < n → kOff1 c j q 70 i = nI (vN (kOff1 c j q 70 i)) ∧ vN (kOff1 c j q 70 i) < 2 ^ 31 := fun i hi => ⟨(l5 i hi).1.1, by have := (l5 i hi).1.2; show vN (c 70 i) < 2 ^ 31; omega⟩
  have uniq : ∀ i, i < n → (kOff1 c j q 70 i = nI j ↔ i = p) := by
    intro i hi
    show c 70 i = nI j ↔ i = p
    constructor
    · intro w
      have hv : vN (c 70 i) = vN (c 70 p) := by rw [w, hpj]
      rcases Nat.lt_trichotomy i p with y | y | y
      · have := m1 i p y hp; omega
      · exact y
      · have := m1 p i y hi; omega
    · intro w
      rw [w]; exact hpj
  have h11 : ¬ kOff1 c j q 11 j = nI j := by
    show ¬ c 11 j = nI j
    intro w
    have := hpar.2
    rw [w, vN_nI (by omega)] at this
    omega
  obtain ⟨r1, r2⟩ := kUn_hi n (kOff1 c j q) hp (Nat.le_refl _) g70 uniq (by omega) h11
  have o12 : ∀ k, kOff1 c j q 12 k = if k = j then 0 else c 12 k := fun k => by
    simp only [kOff1, sS_app, Nat.reduceEqDiff, true_and, false_and, ↓reduceIte]
  funext f
  by_cases hf : f = 11
  · subst hf
    funext k
    rw [kRem_11, mRep_11]
    obtain ⟨s1, s2⟩ := r2 k
    have hiff : (∃ i, i < n ∧ i ≠ p ∧ vN (kOff1 c j q 70 i) = k) ↔ (1 ≤ k ∧ k ≤ kC W) ∧ ¬ kOff1 c j q 12 k = 0 := by
      rw [o12]
      constructor
      · rintro ⟨i, i1, i2, i3⟩
        have i3 : vN (c 70 i) = k := i3
        have h5 := l5 i i1
        have hk1 : 1 ≤ k := by rw [← i3]; exact h5.2
        have hk2 : k ≤ kC W := by have := h5.1.2; omega
        have hkj : k ≠ j := fun w => i2 ((uniq i i1).mp (by show c 70 i = nI j; rw [h5.1.1, i3, w]))
        rw [if_neg hkj]
        exact ⟨⟨hk1, hk2⟩, (m2 k hk1 hk2).mpr ⟨i, i1, by rw [h5.1.1, i3]⟩⟩
      · rintro ⟨⟨k1, k2⟩, k3⟩
        by_cases hkj : k = j
        · rw [if_pos hkj] at k3
          exact absurd rfl k3
        · rw [if_neg hkj] at k3
          obtain ⟨i, i1, i2⟩ := (m2 k k1 k2).mp k3
          refine ⟨i, i1, fun w => ?_, ?_⟩
          · rw [w, hpj] at i2
            exact hkj ((nI_eq (by omega) (by omega)).mp i2).symm
          · show vN (c 70 i) = k
            rw [i2, vN_nI (by omega)]
    by_cases hc : ((1 ≤ k ∧ k ≤ kC W) ∧ ¬ kOff1 c j q 12 k = 0 ∧ kOff1 c j q 11 k = nI j)
    · rw [if_pos hc]
      exact s1 (hiff.mpr ⟨hc.1, hc.2.1⟩) hc.2.2
    · rw [if_neg hc]
      exact s2 (fun w => hc ⟨(hiff.mp w.1).1, (hiff.mp w.1).2, w.2⟩)
  · rw [r1 f hf]
    funext u
    simp only [kRem, sS_app, kShift, mRep_ne _ _ _ (show (70 : Nat) ≠ 11 by decide), mRep_ne _ _ _ hf, mRep_ne _ _ _ (show (71 : Nat) ≠ 11 by decide), mRep_ne _ _ _ (show (72 : Nat) ≠ 11 by decide)]
end LD
