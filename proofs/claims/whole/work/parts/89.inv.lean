/-! CLASS AND REFERENCE: the threads of both. -/
abbrev mWst (s : mS) (t : Nat) : Prop := s 15 t = 1 ∨ s 15 t = nI 2 ∨ s 15 t = nI 4 ∨ s 15 t = nI 5
def kWn1 (c : mS) (t : Nat) : Nat := if c 52 t = 0 then 0 else 1
def kWn (c : mS) : Nat := kWn1 c 1 + kWn1 c 2 + kWn1 c 3
def jB0 (c s : mS) : Prop := c 15 = s 15 ∧ c 16 = s 16 ∧ c 17 = s 17 ∧ c 18 = s 18 ∧ c 19 = s 19 ∧ c 20 = s 20 ∧ c 29 = s 29
def jBt (K : Nat) (c s : mS) : Prop := ∃ A B, c 31 0 = nI A ∧ s 31 0 = nI B ∧ A + kWn c ≤ K ∧ B + kWn c ≤ K ∧ K < 2 ^ 30 ∧ ∀ t, 1 ≤ t → t < 4 → ∃ a b a' b' x y, c 21 t = nI a ∧ s 21 t = nI b ∧ c 23 t = nI a' ∧ s 23 t = nI b' ∧ c 28 t = nI x ∧ s 28 t = nI y ∧ a ≤ A ∧ b ≤ B ∧ a' ≤ A ∧ b' ≤ B ∧ x ≤ K ∧ y ≤ B
def jBo (c s : mS) : Prop := ∀ t u, 1 ≤ t → t < 4 → 1 ≤ u → u < 4 → (c 21 t < c 21 u ↔ s 21 t < s 21 u) ∧ (c 23 t < c 23 u ↔ s 23 t < s 23 u)
def jBw (W : kW) (c s : mS) : Prop := ∀ t, 1 ≤ t → t < 4 → (mWst s t → ∃ o, o < kT W ∧ s 22 t = nI o ∧ c 52 t = nI (o + 1) ∧ (s 15 t = nI 5 → c 1 o = nI 2) ∧ (¬ s 15 t = nI 5 → c 1 o = 1)) ∧ (¬ mWst s t → c 52 t = 0)
def jBm (c s : mS) : Prop := ∀ t, 1 ≤ t → t < 4 → s 15 t = 1 ∨ s 15 t = nI 2 → c 24 t = s 24 t ∧ c 25 t = s 25 t ∧ c 26 t = s 26 t
def kInR (W : kW) (c s : mS) (t : Nat) : Prop := (s 27 t = -1 ∧ c 56 t = 0) ∨ ∃ o a, o < kT W ∧ c 1 o = nI 3 ∧ a < 72 ∧ c 56 t = nI (o + 1) ∧ c 27 t = nI a ∧ s 27 t = nI a ∧ s 41 t = nI (8 * o + a % 8)
def jBi (W : kW) (c s : mS) : Prop := ∀ t, 1 ≤ t → t < 4 → s 15 t = nI 4 → kInR W c s t
def jBc (c s : mS) : Prop := ∀ u t, 1 ≤ u → u < 4 → 1 ≤ t → t < 4 → s 29 u = nI t → (c 28 t = c 30 u ↔ s 28 t = s 30 u) ∧ ¬ c 28 t < c 30 u ∧ ¬ s 28 t < s 30 u
def jBn (s : mS) : Prop := ∀ t u, 1 ≤ t → t < 4 → 1 ≤ u → u < 4 → s 15 t = 1 ∨ s 15 t = nI 2 → s 15 u = nI 4 → ¬ s 22 t = s 22 u
def jBg (W : kW) (c s : mS) : Prop := (∀ u, u < 4 → isN (s 29 u) 4 ∧ isN (s 26 u) (kC W + 1) ∧ (0 ≤ s 27 u → isN (s 41 u) 400)) ∧ ∀ u, 1 ≤ u → u < 4 → isN (c 26 u) (kC W + 1) ∧ vN (c 56 u) ≤ kT W
def jB (K : Nat) (W : kW) (c s : mS) : Prop := jB0 c s ∧ jBt K c s ∧ jBo c s ∧ jBw W c s ∧ jBm c s ∧ jBi W c s ∧ jBc c s ∧ jBn s ∧ jBg W c s
section LA
variable {W : kW} {c s : mS} {K : Nat}
theorem mNowS_eq (h0 : jB0 c s) (ho : jBo c s) {b t : Nat} (hb : b < 4) (t1 : 1 ≤ t) (t2 : t < 4) : mNowStep c b t = mNowStep s b t := by
  unfold mNowStep
  rw [h0.1, h0.2.2.2.2.2.1]
  by_cases e : b = 0
  · by_cases q : s 15 t = 0
    · rw [if_pos ⟨q, Or.inl e⟩, if_pos ⟨q, Or.inl e⟩]
    · rw [if_neg (fun w => q w.1), if_neg (fun w => q w.1)]
  · have := (ho t b t1 t2 (by omega) hb).1
    simp only [this]
theorem mNow_eq (h0 : jB0 c s) (ho : jBo c s) : mNow c = mNow s := by
  unfold mNow
  have e1 := mNowS_eq h0 ho (b := 0) (t := 1) (by decide) (by decide) (by decide)
  have l1 : mNowStep s 0 1 < 4 := mNowStep_lt (by decide) (by decide)
  have e2 := mNowS_eq h0 ho (t := 2) l1 (by decide) (by decide)
  have l2 : mNowStep s (mNowStep s 0 1) 2 < 4 := mNowStep_lt l1 (by decide)
  have e3 := mNowS_eq h0 ho (t := 3) l2 (by decide) (by decide)
  rw [e1, e2, e3]
theorem kFS_eq (ho : jBo c s) {o b t : Nat} {x y : Int32} (hb : b < 4) (t1 : 1 ≤ t) (t2 : t < 4) (hi : c 52 t = nI (o + 1) ↔ (s 15 t = x ∨ s 15 t = y) ∧ s 22 t = nI o) : kFStep c o b t = mWtStep s (nI o) x y b t := by
  unfold kFStep mWtStep
  by_cases e : b = 0
  · by_cases q : c 52 t = nI (o + 1)
    · rw [if_pos ⟨q, Or.inl e⟩, if_pos ⟨hi.mp q, Or.inl e⟩]
    · rw [if_neg (fun w => q w.1), if_neg (fun w => q (hi.mpr w.1))]
  · have := (ho t b t1 t2 (by omega) hb).2
    simp only [hi, this]
theorem mWtS_lt {o x y : Int32} {b t : Nat} (hb : b < 4) (ht : t < 4) : mWtStep s o x y b t < 4 := by
  unfold mWtStep
  split
  · exact ht
  · exact hb
theorem kFirst_wt (ho : jBo c s) {o : Nat} {x y : Int32} (hi : ∀ t, 1 ≤ t → t < 4 → (c 52 t = nI (o + 1) ↔ (s 15 t = x ∨ s 15 t = y) ∧ s 22 t = nI o)) : kFirst c o = mWaiting s (nI o) x y := by
  unfold kFirst mWaiting
  have l1 : mWtStep s (nI o) x y 0 1 < 4 := mWtS_lt (by decide) (by decide)
  have l2 : mWtStep s (nI o) x y (mWtStep s (nI o) x y 0 1) 2 < 4 := mWtS_lt l1 (by decide)
  rw [kFS_eq ho (by decide) (by decide) (by decide) (hi 1 (by decide) (by decide)), kFS_eq ho l1 (by decide) (by decide) (hi 2 (by decide) (by decide)), kFS_eq ho l2 (by decide) (by decide) (hi 3 (by decide) (by decide))]
theorem mWtS_keep {o x y : Int32} {b t : Nat} (hb : b ≠ 0) (ht : t ≠ 0) : mWtStep s o x y b t ≠ 0 := by
  unfold mWtStep
  split
  · exact ht
  · exact hb
theorem mWtS_hit {o x y : Int32} {b t : Nat} (ht : t ≠ 0) (hc : (s 15 t = x ∨ s 15 t = y) ∧ s 22 t = o) : mWtStep s o x y b t ≠ 0 := by
  by_cases e : b = 0
  · unfold mWtStep
    rw [if_pos ⟨hc, Or.inl e⟩]
    exact ht
  · exact mWtS_keep e ht
theorem mWaiting_hit {o x y : Int32} {t : Nat} (t1 : 1 ≤ t) (t2 : t < 4) (hc : (s 15 t = x ∨ s 15 t = y) ∧ s 22 t = o) : mWaiting s o x y ≠ 0 := by
  unfold mWaiting
  obtain rfl | rfl | rfl : t = 1 ∨ t = 2 ∨ t = 3 := by omega
  · exact mWtS_keep (mWtS_keep (mWtS_hit (by decide) hc) (by decide)) (by decide)
  · exact mWtS_keep (mWtS_hit (by decide) hc) (by decide)
  · exact mWtS_hit (by decide) hc
theorem mWaiting_zero {o x y : Int32} (hc : ∀ t, 1 ≤ t → t < 4 → ¬ ((s 15 t = x ∨ s 15 t = y) ∧ s 22 t = o)) : mWaiting s o x y = 0 := by
  rcases mWaiting_or s o x y with e | ⟨h1, h2⟩
  · exact e
  · exact absurd h2 (hc _ h1 (mWaiting_lt s o x y))
theorem mWaiting_cg {o x y x' y' : Int32} (hc : ∀ t, 1 ≤ t → t < 4 → (((s 15 t = x ∨ s 15 t = y) ∧ s 22 t = o) ↔ ((s 15 t = x' ∨ s 15 t = y') ∧ s 22 t = o))) : mWaiting s o x y = mWaiting s o x' y' := by
  unfold mWaiting mWtStep
  simp only [hc 1 (by decide) (by decide), hc 2 (by decide) (by decide), hc 3 (by decide) (by decide)]
/-- who waits at o, at the class -/
theorem jBw_at (hw : jBw W c s) (hT : kT W ≤ 50) {o t : Nat} (ho : o < kT W) (t1 : 1 ≤ t) (t2 : t < 4) : c 52 t = nI (o + 1) ↔ mWst s t ∧ s 22 t = nI o := by
  obtain ⟨h1, h2⟩ := hw t t1 t2
  by_cases q : mWst s t
  · obtain ⟨o', p1, p2, p3, -⟩ := h1 q
    rw [p3, p2]
    constructor
    · intro w
      have := (nI_eq (by omega) (by omega)).mp w
      exact ⟨q, by rw [show o' = o by omega]⟩
    · intro w
      have := (nI_eq (by omega) (by omega)).mp w.2
      rw [this]
  · rw [h2 q]
    exact ⟨fun w => absurd w.symm (nI_ne0 (by omega) (by omega)), fun w => absurd w.1 q⟩
theorem jBw_5 (hw : jBw W c s) {o t : Nat} (hT : kT W ≤ 50) (ho : o < kT W) (t1 : 1 ≤ t) (t2 : t < 4) (q : mWst s t) (e : s 22 t = nI o) : (s 15 t = nI 5 → c 1 o = nI 2) ∧ (¬ s 15 t = nI 5 → c 1 o = 1) := by
  obtain ⟨o', p1, p2, p3, p4⟩ := (hw t t1 t2).1 q
  rw [p2] at e
  rw [← (nI_eq (by omega) (by omega)).mp e]
  exact p4
theorem st_ne : ¬ (1 : Int32) = nI 2 ∧ ¬ (1 : Int32) = nI 4 ∧ ¬ (1 : Int32) = nI 5 ∧ ¬ nI 2 = nI 4 ∧ ¬ nI 2 = nI 5 ∧ ¬ nI 4 = nI 5 ∧ ¬ (0 : Int32) = 1 ∧ ¬ (0 : Int32) = nI 2 ∧ ¬ (0 : Int32) = nI 4 ∧ ¬ (0 : Int32) = nI 5 ∧ ¬ nI 3 = 1 ∧ ¬ nI 3 = nI 2 ∧ ¬ nI 3 = nI 4 ∧ ¬ nI 3 = nI 5 := by decide
/-- senders wait at o: they alone -/
theorem jB_snd (J : jB K W c s) (hT : kT W ≤ 50) {o : Nat} (ho : o < kT W) (hs : mWaiting s (nI o) 1 (nI 2) ≠ 0) : kFirst c o = mWaiting s (nI o) 1 (nI 2) := by
  obtain ⟨j0, jt, jo, jw, jm, ji, jc, jn, jg⟩ := J
  refine kFirst_wt jo fun t t1 t2 => ?_
  rw [jBw_at jw hT ho t1 t2]
  rcases mWaiting_or s (nI o) 1 (nI 2) with e | ⟨f1, f2, f3⟩
  · exact absurd e hs
  have fl := mWaiting_lt s (nI o) 1 (nI 2)
  have fw : mWst s (mWaiting s (nI o) 1 (nI 2)) := f2.elim Or.inl (fun w => Or.inr (Or.inl w))
  have f5 : ¬ s 15 (mWaiting s (nI o) 1 (nI 2)) = nI 5 := by
    rcases f2 with e | e
    · rw [e]; decide
    · rw [e]; decide
  have k1 := (jBw_5 jw hT ho f1 fl fw f3).2 f5
  constructor
  · rintro ⟨q, e⟩
    refine ⟨?_, e⟩
    rcases q with q | q | q | q
    · exact Or.inl q
    · exact Or.inr q
    · exact absurd (f3.trans e.symm) (jn _ t f1 fl t1 t2 f2 q)
    · have := (jBw_5 jw hT ho t1 t2 (Or.inr (Or.inr (Or.inr q))) e).1 q
      rw [k1] at this
      exact absurd this (by decide)
  · rintro ⟨q, e⟩
    exact ⟨q.elim Or.inl (fun w => Or.inr (Or.inl w)), e⟩
theorem jB_nos (J : jB K W c s) (hT : kT W ≤ 50) {o : Nat} (ho : o < kT W) (hs : mWaiting s (nI o) 1 (nI 2) = 0) : kFirst c o = mWaiting s (nI o) (nI 4) (nI 5) := by
  obtain ⟨j0, jt, jo, jw, jm, ji, jc, jn, jg⟩ := J
  refine kFirst_wt jo fun t t1 t2 => ?_
  rw [jBw_at jw hT ho t1 t2]
  constructor
  · rintro ⟨q, e⟩
    refine ⟨?_, e⟩
    rcases q with q | q | q | q
    · exact absurd hs (mWaiting_hit t1 t2 ⟨Or.inl q, e⟩)
    · exact absurd hs (mWaiting_hit t1 t2 ⟨Or.inr q, e⟩)
    · exact Or.inl q
    · exact Or.inr q
  · rintro ⟨q, e⟩
    exact ⟨Or.inr (Or.inr q), e⟩
theorem jB_first (J : jB K W c s) (hT : kT W ≤ 50) {o : Nat} (ho : o < kT W) : kFirst c o = mFirstW s (nI o) := by
  unfold mFirstW
  by_cases q : mWaiting s (nI o) 1 (nI 2) = 0
  · rw [if_pos q, jB_nos J hT ho q]
  · rw [if_neg q, jB_snd J hT ho q]
theorem mW45_44 (J : jB K W c s) (hT : kT W ≤ 50) {o : Nat} (ho : o < kT W) (hk : c 1 o = 1) : mWaiting s (nI o) (nI 4) (nI 5) = mWaiting s (nI o) (nI 4) (nI 4) := by
  obtain ⟨j0, jt, jo, jw, jm, ji, jc, jn, jg⟩ := J
  refine mWaiting_cg fun t t1 t2 => ?_
  constructor
  · rintro ⟨q | q, e⟩
    · exact ⟨Or.inl q, e⟩
    · have := (jBw_5 jw hT ho t1 t2 (Or.inr (Or.inr (Or.inr q))) e).1 q
      rw [hk] at this
      exact absurd this (by decide)
  · rintro ⟨q | q, e⟩
    · exact ⟨Or.inl q, e⟩
    · exact ⟨Or.inl q, e⟩
theorem jB_recv (J : jB K W c s) (hT : kT W ≤ 50) {o : Nat} (ho : o < kT W) (hk : c 1 o = 1) : kRecv c o = mWaiting s (nI o) (nI 4) (nI 4) := by
  have J0 := J
  obtain ⟨j0, jt, jo, jw, jm, ji, jc, jn, jg⟩ := J
  unfold kRecv
  by_cases q : mWaiting s (nI o) 1 (nI 2) = 0
  · rw [jB_nos J0 hT ho q, mW45_44 J0 hT ho hk]
    rcases mWaiting_or s (nI o) (nI 4) (nI 4) with e | ⟨f1, f2, f3⟩
    · rw [e, if_neg (fun w => w.1 rfl)]
    · rw [if_pos ⟨by omega, by rw [j0.1]; exact f2.elim id id⟩]
  · rw [jB_snd J0 hT ho q]
    rcases mWaiting_or s (nI o) 1 (nI 2) with e | ⟨f1, f2, f3⟩
    · exact absurd e q
    have fl := mWaiting_lt s (nI o) 1 (nI 2)
    rw [if_neg, mWaiting_zero]
    · rintro t t1 t2 ⟨r, e⟩
      exact jn _ t f1 fl t1 t2 f2 (r.elim id id) (f3.trans e.symm)
    · rintro ⟨-, e⟩
      rw [j0.1] at e
      rcases f2 with r | r
      · rw [r] at e; exact absurd e (by decide)
      · rw [r] at e; exact absurd e (by decide)
theorem jB_send (J : jB K W c s) (hT : kT W ≤ 50) {o : Nat} (ho : o < kT W) (hk : c 1 o = 1) : kSend c o = mWaiting s (nI o) 1 (nI 2) := by
  have J0 := J
  obtain ⟨j0, jt, jo, jw, jm, ji, jc, jn, jg⟩ := J
  unfold kSend
  by_cases q : mWaiting s (nI o) 1 (nI 2) = 0
  · rw [jB_nos J0 hT ho q, mW45_44 J0 hT ho hk, q]
    rcases mWaiting_or s (nI o) (nI 4) (nI 4) with e | ⟨f1, f2, f3⟩
    · exact (if_neg (fun w => w.1 e))
    · rw [if_neg (fun w => w.2 (by rw [j0.1]; exact f2.elim id id))]
  · rw [jB_snd J0 hT ho q]
    rcases mWaiting_or s (nI o) 1 (nI 2) with e | ⟨f1, f2, f3⟩
    · exact absurd e q
    refine if_pos ⟨by omega, fun e => ?_⟩
    rw [j0.1] at e
    rcases f2 with r | r
    · rw [r] at e; exact absurd e (by decide)
    · rw [r] at e; exact absurd e (by decide)
theorem jB_no1 (J : jB K W c s) (hT : kT W ≤ 50) {o : Nat} (ho : o < kT W) (hk : c 1 o = nI 2) {t : Nat} (t1 : 1 ≤ t) (t2 : t < 4) : c 52 t = nI (o + 1) ↔ s 15 t = nI 5 ∧ s 22 t = nI o := by
  obtain ⟨j0, jt, jo, jw, jm, ji, jc, jn, jg⟩ := J
  rw [jBw_at jw hT ho t1 t2]
  constructor
  · rintro ⟨q, e⟩
    refine ⟨Classical.byContradiction fun w => ?_, e⟩
    have := (jBw_5 jw hT ho t1 t2 q e).2 w
    rw [hk] at this
    exact absurd this (by decide)
  · rintro ⟨q, e⟩
    exact ⟨Or.inr (Or.inr (Or.inr q)), e⟩
theorem jB_sig (J : jB K W c s) (hT : kT W ≤ 50) {o : Nat} (ho : o < kT W) (hk : c 1 o = nI 2) : kFirst c o = mWaiting s (nI o) (nI 5) (nI 5) := by
  refine kFirst_wt J.2.2.1 fun t t1 t2 => ?_
  rw [jB_no1 J hT ho hk t1 t2]
  exact ⟨fun w => ⟨Or.inl w.1, w.2⟩, fun w => ⟨w.1.elim id id, w.2⟩⟩
theorem jB_how (J : jB K W c s) (hT : kT W ≤ 50) {o : Nat} (ho : o < kT W) (hk : c 1 o = nI 2) : kHow c o = mN5 s (nI o) := by
  unfold kHow mN5 kHStep mC5
  simp only [jB_no1 J hT ho hk (show 1 ≤ 1 by decide) (by decide), jB_no1 J hT ho hk (show 1 ≤ 2 by decide) (by decide), jB_no1 J hT ho hk (show 1 ≤ 3 by decide) (by decide)]
theorem jB.wa (J : jB K W c s) : kWA W c := by
  intro t t1 t2
  obtain ⟨h1, h2⟩ := J.2.2.2.1 t t1 t2
  by_cases q : mWst s t
  · obtain ⟨o, p1, -, p3, -⟩ := h1 q
    exact Or.inr ⟨o, p1, p3⟩
  · exact Or.inl (h2 q)
theorem jB.ga (J : jB K W c s) : kGA W c := fun u u1 u2 => (J.2.2.2.2.2.2.2.2.2 u u1 u2).1
theorem jB.ia (J : jB K W c s) : kIA W c := by
  intro v v1 v2 e
  have := J.2.2.2.2.2.1 v v1 v2 (by rw [← J.1.1]; exact e)
  rcases this with ⟨-, q⟩ | ⟨o, a, p1, p2, p3, p4, p5, -⟩
  · exact Or.inl q
  · exact Or.inr ⟨o, a, p1, p2, p4, p3, p5⟩
end LA
