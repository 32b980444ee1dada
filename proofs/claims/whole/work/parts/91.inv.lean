/-! Class and reference: waiting, asking, messages; all are aborted. -/
section LC
variable {W : kW} {c s : mS} {K : Nat}
theorem kWts_15 {t o u : Nat} {st : Int32} : kWaits c t st o 15 u = if u = t then st else c 15 u := by
  simp only [kWaits, sS_app, Nat.reduceEqDiff, true_and, false_and, ↓reduceIte]
theorem kWts_52 {t o u : Nat} {st : Int32} : kWaits c t st o 52 u = if u = t then nI (o + 1) else c 52 u := by
  simp only [kWaits, sS_app, Nat.reduceEqDiff, true_and, false_and, ↓reduceIte]
theorem kWts_23 {t o u : Nat} {st : Int32} : kWaits c t st o 23 u = if u = t then c 31 0 + 1 else c 23 u := by
  simp only [kWaits, sS_app, Nat.reduceEqDiff, true_and, false_and, ↓reduceIte]
theorem kWts_31 {t o : Nat} {st : Int32} : kWaits c t st o 31 0 = c 31 0 + 1 := by
  simp only [kWaits, sS_app, Nat.reduceEqDiff, and_self, false_and, ↓reduceIte]
theorem mWts_15 {t u : Nat} {st o : Int32} : mWaits s t st o 15 u = if u = t then st else s 15 u := by
  simp only [mWaits, sS_app, Nat.reduceEqDiff, true_and, false_and, ↓reduceIte]
theorem mWts_22 {t u : Nat} {st o : Int32} : mWaits s t st o 22 u = if u = t then o else s 22 u := by
  simp only [mWaits, sS_app, Nat.reduceEqDiff, true_and, false_and, ↓reduceIte]
theorem mWts_23 {t u : Nat} {st o : Int32} : mWaits s t st o 23 u = if u = t then s 31 0 + 1 else s 23 u := by
  simp only [mWaits, sS_app, Nat.reduceEqDiff, true_and, false_and, ↓reduceIte]
theorem mWts_31 {t : Nat} {st o : Int32} : mWaits s t st o 31 0 = s 31 0 + 1 := by
  simp only [mWaits, sS_app, Nat.reduceEqDiff, and_self, false_and, ↓reduceIte]
theorem jB_waits (J : jB K W c s) {t o : Nat} {st : Int32} (t1 : 1 ≤ t) (t2 : t < 4) (hK : K + 2 < 2 ^ 30) (hT : kT W ≤ 50) (ho : o < kT W) (h52 : c 52 t = 0)
    (hst : (st = nI 5 ∧ c 1 o = nI 2) ∨ ((st = 1 ∨ st = nI 2 ∨ st = nI 4) ∧ c 1 o = 1))
    (hm : st = 1 ∨ st = nI 2 → c 24 t = s 24 t ∧ c 25 t = s 25 t ∧ c 26 t = s 26 t)
    (hi : st = nI 4 → kInR W c s t)
    (hn : st = 1 ∨ st = nI 2 → ∀ u, 1 ≤ u → u < 4 → s 15 u = nI 4 → ¬ s 22 u = nI o)
    (hn2 : st = nI 4 → ∀ u, 1 ≤ u → u < 4 → s 15 u = 1 ∨ s 15 u = nI 2 → ¬ s 22 u = nI o) : jB (K + 2) W (kWaits c t st o) (mWaits s t st (nI o)) := by
  obtain ⟨j0, jt, jo, jw, jm, ji, jc, jn, jg⟩ := J
  obtain ⟨A, B, a1, a2, a3, a4, a5, a6⟩ := jt
  have ew := kWn_set (c := c) (v := nI (o + 1)) t1 t2 (c' := kWaits c t st o) (fun u => kWts_52)
  rw [if_neg (nI_ne0 (by omega) (by omega)), show kWn1 c t = 0 from if_pos h52] at ew
  have ec : ∀ u, kWaits c t st o 23 u = if u = t then nI (A + 1) else c 23 u := fun u => by rw [kWts_23, a1, nI_1]
  have es : ∀ u, mWaits s t st (nI o) 23 u = if u = t then nI (B + 1) else s 23 u := fun u => by rw [mWts_23, a2, nI_1]
  refine ⟨⟨?_, j0.2⟩, ⟨A + 1, B + 1, ?_, ?_, by omega, by omega, by omega, fun u u1 u2 => ?_⟩, fun u v u1 u2 v1 v2 => ⟨(jo u v u1 u2 v1 v2).1, ?_⟩, fun u u1 u2 => ?_, fun u u1 u2 e => ?_, fun u u1 u2 e => ?_, jc, fun u v u1 u2 v1 v2 e1 e2 => ?_, jg⟩
  · funext u
    rw [kWts_15, mWts_15, j0.1]
  · rw [kWts_31, a1, nI_1]
  · rw [mWts_31, a2, nI_1]
  · obtain ⟨a, b, a', b', x, y, h1, h2, h3, h4, h5, h6, h7, h8, h9, h10, h11, h12⟩ := a6 u u1 u2
    rw [ec, es]
    by_cases e : u = t
    · rw [if_pos e, if_pos e]
      exact ⟨a, b, A + 1, B + 1, x, y, h1, h2, rfl, rfl, h5, h6, by omega, by omega, Nat.le_refl _, Nat.le_refl _, by omega, by omega⟩
    · rw [if_neg e, if_neg e]
      exact ⟨a, b, a', b', x, y, h1, h2, h3, h4, h5, h6, by omega, by omega, by omega, by omega, by omega, by omega⟩
  · obtain ⟨a, b, a', b', x, y, h1, h2, h3, h4, h5, h6, h7, h8, h9, h10, h11, h12⟩ := a6 u u1 u2
    obtain ⟨d, e, d', e', x', y', g1, g2, g3, g4, g5, g6, g7, g8, g9, g10, g11, g12⟩ := a6 v v1 v2
    exact stamp_o (by omega) (by omega) ec es ⟨a', b', h3, h4, h9, h10⟩ ⟨d', e', g3, g4, g9, g10⟩ (jo u v u1 u2 v1 v2).2
  · unfold mWst
    rw [kWts_52, mWts_15, mWts_22]
    by_cases e : u = t
    · rw [if_pos e, if_pos e, if_pos e]
      rcases hst with ⟨e1, e2⟩ | ⟨e1, e2⟩
      · exact ⟨fun _ => ⟨o, ho, rfl, rfl, fun _ => e2, fun w => absurd e1 w⟩, fun w => absurd (Or.inr (Or.inr (Or.inr e1))) w⟩
      · have n5 : ¬ st = nI 5 := by
          rcases e1 with q | q | q
          · rw [q]; decide
          · rw [q]; decide
          · rw [q]; decide
        refine ⟨fun _ => ⟨o, ho, rfl, rfl, fun w => absurd w n5, fun _ => e2⟩, fun w => absurd ?_ w⟩
        rcases e1 with q | q | q
        · exact Or.inl q
        · exact Or.inr (Or.inl q)
        · exact Or.inr (Or.inr (Or.inl q))
    · rw [if_neg e, if_neg e, if_neg e]
      exact jw u u1 u2
  · rw [mWts_15] at e
    by_cases q : u = t
    · rw [if_pos q] at e
      rw [q]
      exact hm e
    · rw [if_neg q] at e
      exact jm u u1 u2 e
  · rw [mWts_15] at e
    by_cases q : u = t
    · rw [if_pos q] at e
      rw [q]
      exact hi e
    · rw [if_neg q] at e
      exact ji u u1 u2 e
  · rw [mWts_15] at e1 e2
    rw [mWts_22, mWts_22]
    by_cases q : u = t
    · rw [if_pos q] at e1
      by_cases q2 : v = t
      · rw [if_pos q2] at e2
        rcases e1 with w | w
        · rw [w] at e2; exact absurd e2 (by decide)
        · rw [w] at e2; exact absurd e2 (by decide)
      · rw [if_neg q2] at e2
        rw [if_pos q, if_neg q2]
        exact fun w => hn e1 v v1 v2 e2 w.symm
    · rw [if_neg q] at e1
      by_cases q2 : v = t
      · rw [if_pos q2] at e2
        rw [if_neg q, if_pos q2]
        exact fun w => hn2 e2 u u1 u2 e1 w
      · rw [if_neg q2] at e2
        rw [if_neg q, if_neg q2]
        exact jn u v u1 u2 v1 v2 e1 e2
-- asks
theorem kAsk_15 {t v u : Nat} : kAsks c t v 15 u = if u = t then nI 3 else c 15 u := by
  simp only [kAsks, sS_app, Nat.reduceEqDiff, true_and, false_and, ↓reduceIte]
theorem kAsk_52 {t v u : Nat} : kAsks c t v 52 u = if u = t then 0 else c 52 u := by
  simp only [kAsks, sS_app, Nat.reduceEqDiff, true_and, false_and, ↓reduceIte]
theorem kAsk_29 {t v u : Nat} : kAsks c t v 29 u = if u = v then nI t else c 29 u := by
  simp only [kAsks, sS_app, Nat.reduceEqDiff, true_and, false_and, ↓reduceIte]
theorem kAsk_30 {t v u : Nat} : kAsks c t v 30 u = if u = v then c 28 t else c 30 u := by
  simp only [kAsks, sS_app, Nat.reduceEqDiff, true_and, false_and, ↓reduceIte]
theorem mAsk_15 {t v u : Nat} : mAsks s t v 15 u = if u = t then nI 3 else s 15 u := by
  simp only [mAsks, sS_app, Nat.reduceEqDiff, true_and, false_and, ↓reduceIte]
theorem mAsk_29 {t v u : Nat} : mAsks s t v 29 u = if u = v then nI t else s 29 u := by
  simp only [mAsks, sS_app, Nat.reduceEqDiff, true_and, false_and, ↓reduceIte]
theorem mAsk_30 {t v u : Nat} : mAsks s t v 30 u = if u = v then s 28 t else s 30 u := by
  simp only [mAsks, sS_app, Nat.reduceEqDiff, true_and, false_and, ↓reduceIte]
theorem i32_irr (x : Int32) : ¬ x < x := fun w => k2_nle w (Int32.le_refl x)
theorem jB_asks (J : jB K W c s) {t v : Nat} (t1 : 1 ≤ t) (t2 : t < 4) (v1 : 1 ≤ v) (v2 : v < 4) : jB K W (kAsks c t v) (mAsks s t v) := by
  obtain ⟨j0, jt, jo, jw, jm, ji, jc, jn, jg⟩ := J
  obtain ⟨A, B, a1, a2, a3, a4, a5, a6⟩ := jt
  obtain ⟨z1, z2, z3, z4, z5, z6, z7⟩ := j0
  have ew := kWn_set (c := c) (v := 0) t1 t2 (c' := kAsks c t v) (fun u => kAsk_52)
  rw [if_pos rfl] at ew
  refine ⟨⟨?_, z2, z3, z4, z5, z6, ?_⟩, ⟨A, B, a1, a2, by omega, by omega, a5, a6⟩, jo, fun u u1 u2 => ?_, fun u u1 u2 e => ?_, fun u u1 u2 e => ?_, fun u w u1 u2 w1 w2 e => ?_, fun u w u1 u2 w1 w2 e1 e2 => ?_, ⟨fun u hu => ⟨?_, (jg.1 u hu).2⟩, jg.2⟩⟩
  · funext u
    rw [kAsk_15, mAsk_15, z1]
  · funext u
    rw [kAsk_29, mAsk_29, z7]
  · unfold mWst
    rw [kAsk_52, mAsk_15]
    by_cases e : u = t
    · rw [if_pos e, if_pos e]
      exact ⟨fun w => absurd w (by decide), fun _ => rfl⟩
    · rw [if_neg e, if_neg e]
      exact jw u u1 u2
  · rw [mAsk_15] at e
    by_cases q : u = t
    · rw [if_pos q] at e
      exact absurd e (by decide)
    · rw [if_neg q] at e
      exact jm u u1 u2 e
  · rw [mAsk_15] at e
    by_cases q : u = t
    · rw [if_pos q] at e
      exact absurd e (by decide)
    · rw [if_neg q] at e
      exact ji u u1 u2 e
  · rw [mAsk_29] at e
    rw [kAsk_30, mAsk_30]
    by_cases q : u = v
    · rw [if_pos q] at e
      rw [if_pos q, if_pos q]
      have := (nI_eq (by omega) (by omega)).mp e
      subst this
      exact ⟨⟨fun _ => rfl, fun _ => rfl⟩, i32_irr _, i32_irr _⟩
    · rw [if_neg q] at e
      rw [if_neg q, if_neg q]
      exact jc u w u1 u2 w1 w2 e
  · rw [mAsk_15] at e1 e2
    by_cases q : u = t
    · rw [if_pos q] at e1
      exact absurd e1 (by decide)
    · rw [if_neg q] at e1
      by_cases q2 : w = t
      · rw [if_pos q2] at e2
        exact absurd e2 (by decide)
      · rw [if_neg q2] at e2
        exact jn u w u1 u2 w1 w2 e1 e2
  · rw [mAsk_29]
    by_cases q : u = v
    · rw [if_pos q]
      exact isN_nI t2 (by decide)
    · rw [if_neg q]
      exact (jg.1 u hu).1
-- notes
theorem mNote_ne {t u f : Nat} {w b g : Int32} (h : u ≠ t) : mNote c t w b g f u = c f u := by
  simp only [mNote, sS_app, h, and_false, ↓reduceIte]
theorem mNote_26 {t : Nat} {w b g : Int32} : mNote c t w b g 26 t = g := by
  simp only [mNote, sS_app, and_self, ↓reduceIte]
theorem jB_noteC (J : jB K W c s) {t : Nat} {w b g : Int32} (hs : ¬ (s 15 t = 1 ∨ s 15 t = nI 2)) (hg : isN g (kC W + 1)) : jB K W (mNote c t w b g) s := by
  obtain ⟨j0, jt, jo, jw, jm, ji, jc, jn, jg⟩ := J
  refine ⟨j0, jt, jo, jw, fun u u1 u2 e => ?_, ji, jc, jn, jg.1, fun u u1 u2 => ⟨?_, (jg.2 u u1 u2).2⟩⟩
  · have hu : u ≠ t := fun q => hs (by rw [← q]; exact e)
    rw [mNote_ne hu, mNote_ne hu, mNote_ne hu]
    exact jm u u1 u2 e
  · by_cases q : u = t
    · rw [q, mNote_26]
      exact hg
    · rw [mNote_ne q]
      exact (jg.2 u u1 u2).1
theorem jB_noteS (J : jB K W c s) {t : Nat} {w b g : Int32} (hs : ¬ (s 15 t = 1 ∨ s 15 t = nI 2)) (hg : isN g (kC W + 1)) : jB K W c (mNote s t w b g) := by
  obtain ⟨j0, jt, jo, jw, jm, ji, jc, jn, jg⟩ := J
  refine ⟨j0, jt, jo, jw, fun u u1 u2 e => ?_, ji, jc, jn, fun u hu => ⟨(jg.1 u hu).1, ?_, (jg.1 u hu).2.2⟩, jg.2⟩
  · have hu : u ≠ t := fun q => hs (by rw [← q]; exact e)
    rw [mNote_ne hu, mNote_ne hu, mNote_ne hu]
    exact jm u u1 u2 e
  · by_cases q : u = t
    · rw [q, mNote_26]
      exact hg
    · rw [mNote_ne q]
      exact (jg.1 u hu).2.1
theorem jB_said (J : jB K W c s) {t : Nat} {T i i' sl : Int32} (hs : ¬ s 15 t = nI 4) (hT : vN T ≤ kT W) (hl : 0 ≤ i' → isN sl 400) : jB K W (kSaid c t T i) (mSaid s t i' sl) := by
  obtain ⟨j0, jt, jo, jw, jm, ji, jc, jn, jg⟩ := J
  have e56 : ∀ u, kSaid c t T i 56 u = if u = t then T else c 56 u := fun u => by
    simp only [kSaid, sS_app, Nat.reduceEqDiff, true_and, false_and, ↓reduceIte]
  have e27 : ∀ u, kSaid c t T i 27 u = if u = t then i else c 27 u := fun u => by
    simp only [kSaid, sS_app, Nat.reduceEqDiff, true_and, false_and, ↓reduceIte]
  have f27 : ∀ u, mSaid s t i' sl 27 u = if u = t then i' else s 27 u := fun u => by
    simp only [mSaid, sS_app, Nat.reduceEqDiff, true_and, false_and, ↓reduceIte]
  have f41 : ∀ u, mSaid s t i' sl 41 u = if u = t then sl else s 41 u := fun u => by
    simp only [mSaid, sS_app, Nat.reduceEqDiff, true_and, false_and, ↓reduceIte]
  refine ⟨j0, jt, jo, jw, jm, fun u u1 u2 e => ?_, jc, jn, fun u hu => ⟨(jg.1 u hu).1, (jg.1 u hu).2.1, ?_⟩, fun u u1 u2 => ⟨(jg.2 u u1 u2).1, ?_⟩⟩
  · have hu : u ≠ t := fun q => hs (by rw [← q]; exact e)
    unfold kInR
    rw [e56, e27, f27, f41, if_neg hu, if_neg hu, if_neg hu, if_neg hu]
    exact ji u u1 u2 e
  · rw [f27, f41]
    by_cases q : u = t
    · rw [if_pos q, if_pos q]
      exact hl
    · rw [if_neg q, if_neg q]
      exact (jg.1 u hu).2.2
  · rw [e56]
    by_cases q : u = t
    · rw [if_pos q]
      exact hT
    · rw [if_neg q]
      exact (jg.2 u u1 u2).2
-- a call is numbered
theorem jB_num (J : jB K W c s) {t : Nat} (t1 : 1 ≤ t) (t2 : t < 4) (hK : K + 1 < 2 ^ 30) : jB (K + 1) W (sS c 28 t (c 28 t + 1)) (mNum s t) := by
  obtain ⟨j0, jt, jo, jw, jm, ji, jc, jn, jg⟩ := J
  obtain ⟨A, B, a1, a2, a3, a4, a5, a6⟩ := jt
  obtain ⟨at1, bt1, at2, bt2, xt, yt, q1, q2, q3, q4, q5, q6, q7, q8, q9, q10, q11, q12⟩ := a6 t t1 t2
  have hw : kWn (sS c 28 t (c 28 t + 1)) = kWn c := rfl
  have e28 : ∀ u, sS c 28 t (c 28 t + 1) 28 u = if u = t then nI (xt + 1) else c 28 u := fun u => by
    rw [sS_app, q5, nI_1]
    simp only [true_and]
  have f28 : ∀ u, mNum s t 28 u = if u = t then nI (B + 1) else s 28 u := fun u => by
    simp only [mNum, sS_app, Nat.reduceEqDiff, true_and, false_and, ↓reduceIte, a2, nI_1]
  have f31 : mNum s t 31 0 = nI (B + 1) := by
    simp only [mNum, sS_app, Nat.reduceEqDiff, and_self, false_and, ↓reduceIte, a2, nI_1]
  refine ⟨j0, ⟨A, B + 1, a1, f31, by omega, by omega, by omega, fun u u1 u2 => ?_⟩, jo, jw, jm, ji, fun u v u1 u2 v1 v2 e => ?_, jn, jg⟩
  · obtain ⟨a, b, a', b', x, y, h1, h2, h3, h4, h5, h6, h7, h8, h9, h10, h11, h12⟩ := a6 u u1 u2
    rw [e28, f28]
    by_cases e : u = t
    · rw [if_pos e, if_pos e]
      exact ⟨a, b, a', b', xt + 1, B + 1, h1, h2, h3, h4, rfl, rfl, by omega, by omega, by omega, by omega, by omega, by omega⟩
    · rw [if_neg e, if_neg e]
      exact ⟨a, b, a', b', x, y, h1, h2, h3, h4, h5, h6, by omega, by omega, by omega, by omega, by omega, by omega⟩
  · obtain ⟨r1, r2, r3⟩ := jc u v u1 u2 v1 v2 e
    show (sS c 28 t (c 28 t + 1) 28 v = c 30 u ↔ mNum s t 28 v = s 30 u) ∧ ¬ sS c 28 t (c 28 t + 1) 28 v < c 30 u ∧ ¬ mNum s t 28 v < s 30 u
    rw [e28, f28]
    by_cases q : v = t
    · rw [if_pos q, if_pos q]
      rw [q, q5] at r2
      rw [q, q6] at r3
      have l1 : c 30 u ≤ nI xt := k2_le r2
      have l2 : s 30 u ≤ nI yt := k2_le r3
      have g1 : c 30 u < nI (xt + 1) := Int32.lt_of_le_of_lt l1 (nI_lt (by omega) (by omega))
      have g2 : s 30 u < nI (B + 1) := Int32.lt_of_le_of_lt l2 (nI_lt (by omega) (by omega))
      refine ⟨⟨fun w => ?_, fun w => ?_⟩, fun w => ?_, fun w => ?_⟩
      · rw [w] at g1; exact absurd g1 (i32_irr _)
      · rw [w] at g2; exact absurd g2 (i32_irr _)
      · exact i32_irr _ (Int32.lt_trans w g1)
      · exact i32_irr _ (Int32.lt_trans w g2)
    · rw [if_neg q, if_neg q]
      exact ⟨r1, r2, r3⟩
theorem jB_pass (J : jB K W c s) {t : Nat} (t1 : 1 ≤ t) (t2 : t < 4) (hK : K + 1 < 2 ^ 30) (h15 : c 15 t = 0) (h52 : c 52 t = 0) : jB (K + 1) W (kPassS c t) (mReady s t) := by
  have e : kPassS c t = kReady c t := by
    funext f u
    unfold kPassS kReady
    by_cases e1 : f = 15 ∧ u = t
    · simp only [sS_app, e1.1, e1.2, Nat.reduceEqDiff, false_and, and_self, ↓reduceIte, h15]
    · by_cases e2 : f = 52 ∧ u = t
      · simp only [sS_app, e2.1, e2.2, Nat.reduceEqDiff, false_and, and_self, ↓reduceIte, h52]
      · simp only [sS_app, e1, e2, ↓reduceIte]
  have := jB_ready J t1 t2 hK
  rw [show kWn1 c t = 0 from if_pos h52] at this
  rw [e]
  exact this
-- abort
theorem jB_ab1 (J : jB K W c s) (hT : kT W ≤ 50) (hK : K + 1 < 2 ^ 30) {o : Nat} (ho : o < kT W) : jB K W (kAb1 c o) (if mFirstW s (nI o) = 0 then s else mAb1 s (mFirstW s (nI o))) := by
  have ef := jB_first J hT ho
  unfold kAb1
  rw [ef]
  by_cases q : mFirstW s (nI o) = 0
  · rw [if_pos q, if_pos q]
    exact J
  · rw [if_neg q, if_neg q]
    rcases mFirstW_or s (nI o) with e | ⟨f1, f2, f3⟩
    · exact absurd e q
    have fl := mFirstW_lt s (nI o)
    have hw : kWn1 c (mFirstW s (nI o)) = 1 := by
      obtain ⟨o', -, -, p3, -⟩ := (J.2.2.2.1 _ f1 fl).1 f2
      unfold kWn1
      rw [p3, if_neg]
      intro w
      have h3 := (jBw_at J.2.2.2.1 hT ho f1 fl).mpr ⟨f2, f3⟩
      rw [p3] at h3
      rw [h3] at w
      exact nI_ne0 (by omega) (by omega) w
    have J2 := jB_ready (jB_16 J (mFirstW s (nI o)) 1) f1 fl hK
    rw [show kWn1 (sS c 16 (mFirstW s (nI o)) 1) (mFirstW s (nI o)) = 1 from hw] at J2
    exact J2
theorem mAbort_step (o : Int32) (n : Nat) (s : mS) : mAbort o (n + 1) s = mAbort o n (if mFirstW s o = 0 then s else mAb1 s (mFirstW s o)) := by
  show (if mFirstW s o = 0 then s else mAbort o n (mAb1 s (mFirstW s o))) = _
  by_cases q : mFirstW s o = 0
  · rw [if_pos q, if_pos q]
    cases n with
    | zero => rfl
    | succ n => exact (if_pos q).symm
  · rw [if_neg q, if_neg q]
theorem mFirstW_cnt {o : Int32} (h : mWc s o = 0) : mFirstW s o = 0 := by
  rcases mFirstW_or s o with e | ⟨f1, f2⟩
  · exact e
  · have fl := mFirstW_lt s o
    have h1 : mWb s o (mFirstW s o) = 1 := if_pos f2
    unfold mWc at h
    have : mFirstW s o = 1 ∨ mFirstW s o = 2 ∨ mFirstW s o = 3 := by omega
    rcases this with e | e | e <;> (rw [e] at h1; omega)
theorem mWb_0 {o : Int32} {t : Nat} (t1 : 1 ≤ t) (t2 : t < 4) (h : mFirstW s o = 0) : mWb s o t = 0 := by
  refine if_neg fun w => ?_
  unfold mFirstW at h
  by_cases q : mWaiting s o 1 (nI 2) = 0
  · rw [if_pos q] at h
    rcases w.1 with e | e | e | e
    · exact mWaiting_hit t1 t2 ⟨Or.inl e, w.2⟩ q
    · exact mWaiting_hit t1 t2 ⟨Or.inr e, w.2⟩ q
    · exact mWaiting_hit t1 t2 ⟨Or.inl e, w.2⟩ h
    · exact mWaiting_hit t1 t2 ⟨Or.inr e, w.2⟩ h
  · rw [if_neg q] at h
    exact q h
theorem mWc_step (s : mS) (o : Int32) : mWc (if mFirstW s o = 0 then s else mAb1 s (mFirstW s o)) o ≤ mWc s o - 1 := by
  by_cases q : mFirstW s o = 0
  · rw [if_pos q]
    unfold mWc
    rw [mWb_0 (by decide) (by decide) q, mWb_0 (by decide) (by decide) q, mWb_0 (by decide) (by decide) q]
    exact Nat.le_refl _
  · rw [if_neg q]
    rcases mFirstW_or s o with e | ⟨f1, f2⟩
    · exact absurd e q
    have := mWc_ab f1 (mFirstW_lt s o) f2
    omega
theorem jB_abort (J : jB K W c s) (hT : kT W ≤ 50) (hK : K + 1 < 2 ^ 30) {o : Nat} (ho : o < kT W) : jB K W (kAbort c o) (mAbort (nI o) 4 s) := by
  have J1 := jB_ab1 J hT hK ho
  have J2 := jB_ab1 J1 hT hK ho
  have J3 := jB_ab1 J2 hT hK ho
  rw [mAbort_step, mAbort_step, mAbort_step, mAbort_step]
  have w0 : mWc s (nI o) ≤ 3 := by
    unfold mWc
    have := mWb_le s (nI o) 1
    have := mWb_le s (nI o) 2
    have := mWb_le s (nI o) 3
    omega
  generalize e1 : (if mFirstW s (nI o) = 0 then s else mAb1 s (mFirstW s (nI o))) = s1 at J1 J2 J3 ⊢
  have w1 : mWc s1 (nI o) ≤ mWc s (nI o) - 1 := by rw [← e1]; exact mWc_step s (nI o)
  generalize e2 : (if mFirstW s1 (nI o) = 0 then s1 else mAb1 s1 (mFirstW s1 (nI o))) = s2 at J2 J3 ⊢
  have w2 : mWc s2 (nI o) ≤ mWc s1 (nI o) - 1 := by rw [← e2]; exact mWc_step s1 (nI o)
  generalize e3 : (if mFirstW s2 (nI o) = 0 then s2 else mAb1 s2 (mFirstW s2 (nI o))) = s3 at J3 ⊢
  have w3 : mWc s3 (nI o) ≤ mWc s2 (nI o) - 1 := by rw [← e3]; exact mWc_step s2 (nI o)
  rw [if_pos (mFirstW_cnt (by omega))]
  exact J3
end LC
