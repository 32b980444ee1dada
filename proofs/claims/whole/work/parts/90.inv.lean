/-! Class and reference: what keeps the threads alike. -/
section LB
variable {W : kW} {c s : mS} {K : Nat}
theorem jB_of {W' : kW} {c' s' : mS} (J : jB K W c s) (hc : ∀ f, f = 15 ∨ f = 16 ∨ f = 17 ∨ f = 18 ∨ f = 19 ∨ f = 20 ∨ f = 21 ∨ f = 23 ∨ f = 24 ∨ f = 25 ∨ f = 26 ∨ f = 27 ∨ f = 28 ∨ f = 29 ∨ f = 30 ∨ f = 31 ∨ f = 52 ∨ f = 56 → c' f = c f) (hs : ∀ f, f = 15 ∨ f = 16 ∨ f = 17 ∨ f = 18 ∨ f = 19 ∨ f = 20 ∨ f = 21 ∨ f = 22 ∨ f = 23 ∨ f = 24 ∨ f = 25 ∨ f = 26 ∨ f = 27 ∨ f = 28 ∨ f = 29 ∨ f = 30 ∨ f = 31 ∨ f = 41 → s' f = s f) (hk : ∀ o, o < kT W → c' 1 o = c 1 o) (hT : kT W ≤ kT W') (hC : kC W ≤ kC W') : jB K W' c' s' := by
  obtain ⟨j0, jt, jo, jw, jm, ji, jc, jn, jg⟩ := J
  have ew : kWn c' = kWn c := by
    unfold kWn kWn1
    rw [hc 52 (by decide)]
  refine ⟨?_, ?_, ?_, ?_, ?_, ?_, ?_, ?_, ?_⟩
  · unfold jB0
    rw [hc 15 (by decide), hc 16 (by decide), hc 17 (by decide), hc 18 (by decide), hc 19 (by decide), hc 20 (by decide), hc 29 (by decide), hs 15 (by decide), hs 16 (by decide), hs 17 (by decide), hs 18 (by decide), hs 19 (by decide), hs 20 (by decide), hs 29 (by decide)]
    exact j0
  · unfold jBt
    rw [ew, hc 31 (by decide), hs 31 (by decide), hc 21 (by decide), hs 21 (by decide), hc 23 (by decide), hs 23 (by decide), hc 28 (by decide), hs 28 (by decide)]
    exact jt
  · unfold jBo
    rw [hc 21 (by decide), hs 21 (by decide), hc 23 (by decide), hs 23 (by decide)]
    exact jo
  · intro t t1 t2
    obtain ⟨q1, q2⟩ := jw t t1 t2
    unfold mWst at q1 q2 ⊢
    rw [hs 15 (by decide), hs 22 (by decide), hc 52 (by decide)]
    refine ⟨fun w => ?_, q2⟩
    obtain ⟨o, p1, p2, p3, p4, p5⟩ := q1 w
    exact ⟨o, by omega, p2, p3, by rw [hk o p1]; exact p4, by rw [hk o p1]; exact p5⟩
  · unfold jBm
    rw [hs 15 (by decide), hc 24 (by decide), hs 24 (by decide), hc 25 (by decide), hs 25 (by decide), hc 26 (by decide), hs 26 (by decide)]
    exact jm
  · intro t t1 t2 e
    rw [hs 15 (by decide)] at e
    unfold kInR
    rw [hs 27 (by decide), hc 56 (by decide), hc 27 (by decide), hs 41 (by decide)]
    rcases ji t t1 t2 e with q | ⟨o, a, p1, p2, p3⟩
    · exact Or.inl q
    · exact Or.inr ⟨o, a, by omega, by rw [hk o p1]; exact p2, p3⟩
  · unfold jBc
    rw [hs 29 (by decide), hc 28 (by decide), hs 28 (by decide), hc 30 (by decide), hs 30 (by decide)]
    exact jc
  · unfold jBn
    rw [hs 15 (by decide), hs 22 (by decide)]
    exact jn
  · unfold jBg
    rw [hs 29 (by decide), hs 26 (by decide), hs 27 (by decide), hs 41 (by decide), hc 26 (by decide), hc 56 (by decide)]
    exact ⟨fun u hu => ⟨(jg.1 u hu).1, isN_mono (jg.1 u hu).2.1 (by omega), (jg.1 u hu).2.2⟩, fun u u1 u2 => ⟨isN_mono (jg.2 u u1 u2).1 (by omega), by have := (jg.2 u u1 u2).2; omega⟩⟩
theorem kWn_set {t : Nat} {v : Int32} (t1 : 1 ≤ t) (t2 : t < 4) {c' : mS} (h : ∀ u, c' 52 u = if u = t then v else c 52 u) : kWn c' + kWn1 c t = kWn c + (if v = 0 then 0 else 1) := by
  unfold kWn kWn1
  rw [h 1, h 2, h 3]
  obtain rfl | rfl | rfl : t = 1 ∨ t = 2 ∨ t = 3 := by omega
  · simp only [↓reduceIte, Nat.reduceEqDiff]
    omega
  · simp only [↓reduceIte, Nat.reduceEqDiff]
    omega
  · simp only [↓reduceIte, Nat.reduceEqDiff]
    omega
theorem kWn1_le (c : mS) (t : Nat) : kWn1 c t ≤ 1 := by
  unfold kWn1
  split <;> omega
theorem kRdy_15 {t u : Nat} : kReady c t 15 u = if u = t then 0 else c 15 u := by
  simp only [kReady, sS_app, Nat.reduceEqDiff, true_and, false_and, ↓reduceIte]
theorem kRdy_52 {t u : Nat} : kReady c t 52 u = if u = t then 0 else c 52 u := by
  simp only [kReady, sS_app, Nat.reduceEqDiff, true_and, false_and, ↓reduceIte]
theorem kRdy_21 {t u : Nat} : kReady c t 21 u = if u = t then c 31 0 + 1 else c 21 u := by
  simp only [kReady, sS_app, Nat.reduceEqDiff, true_and, false_and, ↓reduceIte]
theorem kRdy_31 {t : Nat} : kReady c t 31 0 = c 31 0 + 1 := by
  simp only [kReady, sS_app, Nat.reduceEqDiff, and_self, false_and, ↓reduceIte]
theorem mRdy_15 {t u : Nat} : mReady s t 15 u = if u = t then 0 else s 15 u := by
  simp only [mReady, sS_app, Nat.reduceEqDiff, true_and, false_and, ↓reduceIte]
theorem mRdy_21 {t u : Nat} : mReady s t 21 u = if u = t then s 31 0 + 1 else s 21 u := by
  simp only [mReady, sS_app, Nat.reduceEqDiff, true_and, false_and, ↓reduceIte]
theorem mRdy_31 {t : Nat} : mReady s t 31 0 = s 31 0 + 1 := by
  simp only [mReady, sS_app, Nat.reduceEqDiff, and_self, false_and, ↓reduceIte]
/-- a new stamp is the greatest -/
theorem stamp_o {x y x' y' : Nat → Int32} {t A B : Nat} (hA : A + 1 < 2 ^ 31) (hB : B + 1 < 2 ^ 31) (hx : ∀ u, x' u = if u = t then nI (A + 1) else x u) (hy : ∀ u, y' u = if u = t then nI (B + 1) else y u) {p q : Nat} (hp : ∃ a b, x p = nI a ∧ y p = nI b ∧ a ≤ A ∧ b ≤ B) (hq : ∃ a b, x q = nI a ∧ y q = nI b ∧ a ≤ A ∧ b ≤ B) (ho : x p < x q ↔ y p < y q) : x' p < x' q ↔ y' p < y' q := by
  obtain ⟨a, b, e1, e2, l1, l2⟩ := hp
  obtain ⟨a', b', e3, e4, l3, l4⟩ := hq
  rw [hx, hx, hy, hy]
  by_cases p1 : p = t
  · by_cases q1 : q = t
    · rw [if_pos p1, if_pos q1, if_pos p1, if_pos q1, nI_ltI (by omega) (by omega), nI_ltI (by omega) (by omega)]
      omega
    · rw [if_pos p1, if_neg q1, if_pos p1, if_neg q1, e3, e4, nI_ltI (by omega) (by omega), nI_ltI (by omega) (by omega)]
      omega
  · by_cases q1 : q = t
    · rw [if_neg p1, if_pos q1, if_neg p1, if_pos q1, e1, e2, nI_ltI (by omega) (by omega), nI_ltI (by omega) (by omega)]
      omega
    · rw [if_neg p1, if_neg q1, if_neg p1, if_neg q1]
      exact ho
theorem jB_ready (J : jB K W c s) {t : Nat} (t1 : 1 ≤ t) (t2 : t < 4) (hK : K + 1 < 2 ^ 30) : jB (K + 1 - kWn1 c t) W (kReady c t) (mReady s t) := by
  obtain ⟨j0, jt, jo, jw, jm, ji, jc, jn, jg⟩ := J
  obtain ⟨A, B, a1, a2, a3, a4, a5, a6⟩ := jt
  have l1 := kWn1_le c t
  have ew := kWn_set (c := c) (v := 0) t1 t2 (c' := kReady c t) (fun u => kRdy_52)
  rw [if_pos rfl] at ew
  have ec : ∀ u, kReady c t 21 u = if u = t then nI (A + 1) else c 21 u := fun u => by rw [kRdy_21, a1, nI_1]
  have es : ∀ u, mReady s t 21 u = if u = t then nI (B + 1) else s 21 u := fun u => by rw [mRdy_21, a2, nI_1]
  refine ⟨⟨?_, j0.2⟩, ⟨A + 1, B + 1, ?_, ?_, by omega, by omega, by omega, fun u u1 u2 => ?_⟩, fun u v u1 u2 v1 v2 => ⟨?_, (jo u v u1 u2 v1 v2).2⟩, fun u u1 u2 => ?_, fun u u1 u2 e => ?_, fun u u1 u2 e => ?_, jc, fun u v u1 u2 v1 v2 e1 e2 => ?_, jg⟩
  · funext u
    rw [kRdy_15, mRdy_15, j0.1]
  · rw [kRdy_31, a1, nI_1]
  · rw [mRdy_31, a2, nI_1]
  · obtain ⟨a, b, a', b', x, y, h1, h2, h3, h4, h5, h6, h7, h8, h9, h10, h11, h12⟩ := a6 u u1 u2
    rw [ec, es]
    by_cases e : u = t
    · rw [if_pos e, if_pos e]
      exact ⟨A + 1, B + 1, a', b', x, y, rfl, rfl, h3, h4, h5, h6, Nat.le_refl _, Nat.le_refl _, by omega, by omega, by omega, by omega⟩
    · rw [if_neg e, if_neg e]
      exact ⟨a, b, a', b', x, y, h1, h2, h3, h4, h5, h6, by omega, by omega, by omega, by omega, by omega, by omega⟩
  · obtain ⟨a, b, a', b', x, y, h1, h2, h3, h4, h5, h6, h7, h8, h9, h10, h11, h12⟩ := a6 u u1 u2
    obtain ⟨d, e, d', e', x', y', g1, g2, g3, g4, g5, g6, g7, g8, g9, g10, g11, g12⟩ := a6 v v1 v2
    exact stamp_o (by omega) (by omega) ec es ⟨a, b, h1, h2, h7, h8⟩ ⟨d, e, g1, g2, g7, g8⟩ (jo u v u1 u2 v1 v2).1
  · unfold mWst
    rw [kRdy_52, mRdy_15]
    by_cases e : u = t
    · rw [if_pos e, if_pos e]
      exact ⟨fun w => absurd w (by decide), fun _ => rfl⟩
    · rw [if_neg e, if_neg e]
      exact jw u u1 u2
  · rw [mRdy_15] at e
    by_cases q : u = t
    · rw [if_pos q] at e
      exact absurd e (by decide)
    · rw [if_neg q] at e
      exact jm u u1 u2 e
  · rw [mRdy_15] at e
    by_cases q : u = t
    · rw [if_pos q] at e
      exact absurd e (by decide)
    · rw [if_neg q] at e
      exact ji u u1 u2 e
  · rw [mRdy_15] at e1 e2
    by_cases q : u = t
    · rw [if_pos q] at e1
      exact absurd e1 (by decide)
    · rw [if_neg q] at e1
      by_cases q2 : v = t
      · rw [if_pos q2] at e2
        exact absurd e2 (by decide)
      · rw [if_neg q2] at e2
        exact jn u v u1 u2 v1 v2 e1 e2
theorem jB_mono {K' : Nat} (J : jB K W c s) (h : K ≤ K') (h2 : K' < 2 ^ 30) : jB K' W c s := by
  obtain ⟨j0, ⟨A, B, a1, a2, a3, a4, a5, a6⟩, jo, jw, jm, ji, jc, jn, jg⟩ := J
  refine ⟨j0, ⟨A, B, a1, a2, by omega, by omega, h2, fun u u1 u2 => ?_⟩, jo, jw, jm, ji, jc, jn, jg⟩
  obtain ⟨a, b, a', b', x, y, h1, h2, h3, h4, h5, h6, h7, h8, h9, h10, h11, h12⟩ := a6 u u1 u2
  exact ⟨a, b, a', b', x, y, h1, h2, h3, h4, h5, h6, h7, h8, h9, h10, by omega, h12⟩
theorem jB_16 (J : jB K W c s) (t : Nat) (v : Int32) : jB K W (sS c 16 t v) (sS s 16 t v) := by
  obtain ⟨j0, jt, jo, jw, jm, ji, jc, jn, jg⟩ := J
  refine ⟨⟨j0.1, ?_, j0.2.2⟩, jt, jo, jw, jm, ji, jc, jn, jg⟩
  funext u
  rw [sS_app, sS_app, j0.2.1]
theorem jB_20 (J : jB K W c s) (t : Nat) (v : Int32) : jB K W (sS c 20 t v) (sS s 20 t v) := by
  obtain ⟨j0, jt, jo, jw, jm, ji, jc, jn, jg⟩ := J
  obtain ⟨z1, z2, z3, z4, z5, z6, z7⟩ := j0
  refine ⟨⟨z1, z2, z3, z4, z5, ?_, z7⟩, jt, jo, jw, jm, ji, jc, jn, jg⟩
  funext u
  rw [sS_app, sS_app, z6]
theorem jB_comes (J : jB K W c s) (t : Nat) (w b a : Int32) : jB K W (mComes c t w b a) (mComes s t w b a) := by
  obtain ⟨j0, jt, jo, jw, jm, ji, jc, jn, jg⟩ := J
  obtain ⟨z1, z2, z3, z4, z5, z6, z7⟩ := j0
  refine ⟨⟨z1, ?_, ?_, ?_, ?_, z6, z7⟩, jt, jo, jw, jm, ji, jc, jn, jg⟩
  · funext u
    simp only [mComes, sS_app, z2, Nat.reduceEqDiff, false_and, ↓reduceIte]
  · funext u
    simp only [mComes, sS_app, z3, Nat.reduceEqDiff, false_and, ↓reduceIte]
  · funext u
    simp only [mComes, sS_app, z4, Nat.reduceEqDiff, false_and, ↓reduceIte]
  · funext u
    simp only [mComes, sS_app, z5, Nat.reduceEqDiff, false_and, ↓reduceIte]
theorem jB_4 (J : jB K W c s) (o : Nat) (v v' : Int32) : jB K W (sS c 4 o v) (sS s 4 o v') := J
end LB
