/-! CLASS AND REFERENCE ALIKE, and what an action must keep. -/
/-- the files -/
def jC (c s : mS) : Prop := c 36 0 = s 36 0 ∧ c 37 0 = s 37 0 ∧ (∀ i, i < 48 → c 35 i = s 35 i) ∧ (∀ b, b < 6 → ¬ c 73 b = 0 → ∃ d f, d < 4 ∧ f < 4 ∧ c 74 b = nI d ∧ c 75 b = nI f ∧ s 34 (4 * d + f) = nI (b + 1)) ∧ ∀ g, g < 16 → s 34 g = 0 ∨ ∃ b, b < 6 ∧ s 34 g = nI (b + 1) ∧ ¬ c 73 b = 0 ∧ c 74 b = nI (g / 4) ∧ c 75 b = nI (g % 4)
/-- a server's capability bears its client's badge; an object to come has used nothing and has no bits -/
def jD (W : kW) (c : mS) : Prop := (∀ k, 1 ≤ k → k ≤ kC W → vN (c 8 k) < 2 → isN (c 10 k) 4 ∧ ¬ c 10 k = 0) ∧ ∀ o, kT W ≤ o → c 3 o = 0 ∧ c 4 o = 0
def jS (K : Nat) (W : kW) (c s : mS) (n : Nat) : Prop := kRel K W c s n ∧ jC c s ∧ jD W c
section LI
variable {z : xzs} {W : kW} {h : xH} {c s : mS} {n K : Nat}
theorem kDone_mp {o : Option xR} {q : mR} {P P' : kW → mS → Prop} (hd : kDone z W h c o q P) (hf : q.1 = 0 → ∀ W' c', kXt W W' → P W' c' → P' W' c') : kDone z W h c o q P' := by
  rcases hd with hd | ⟨h1, W', h', c', h2, h3, h4, h5⟩
  · exact Or.inl hd
  · exact Or.inr ⟨h1, W', h', c', h2, h3, h4, hf h1 W' c' h4 h5⟩
theorem kDone_q {o : Option xR} {q q' : mR} {P : kW → mS → Prop} (h1 : q'.1 = q.1) (h2 : q'.2.1 = q.2.1) (hd : kDone z W h c o q P) : kDone z W h c o q' P := by
  unfold kDone at hd ⊢
  rw [h1, h2]
  exact hd
/-- an action of class and reference: the same code, the same answer, and both stay alike -/
def kSim (z : xzs) (W : kW) (h : xH) (K : Nat) (c s : mS) (n : Nat) (m : Nat) (fC fM : xF) (as : List Value) : Prop := ∃ q : mR, (∀ hR, mOk hR m → mDone z hR m (fM (.ref m :: as) (mPut hR m s)) q) ∧ kDone z W h c (fC (.ref (kg W 0 0) :: as) (kPut W h c)) q (fun W' c' => ∃ n', jS (K + 10) W' c' q.2.2 n' ∧ kC W' ≤ kC W + 1) ∧ (q.1 ≠ 0 → q.2.2 = s) ∧ isN q.1 5
def kSimZ (z : xzs) (W : kW) (h : xH) (K : Nat) (c s : mS) (n : Nat) (m : Nat) (fC fM : xF) (as : List Value) : Prop := ∃ q : mR, q.1 = 0 ∧ (∀ hR, mOk hR m → mDone z hR m (fM (.ref m :: as) (mPut hR m s)) q) ∧ kDone z W h c (fC (.ref (kg W 0 0) :: as) (kPut W h c)) q (fun W' c' => ∃ n', jS (K + 10) W' c' q.2.2 n' ∧ kC W' ≤ kC W + 1) ∧ (q.1 ≠ 0 → q.2.2 = s) ∧ isN q.1 5
theorem i50 : isN 0 5 := ⟨by decide, by decide⟩
theorem i51 : isN 1 5 := ⟨by decide, by decide⟩
theorem i52 : isN (nI 2) 5 := ⟨by decide, by decide⟩
theorem i53 : isN (nI 3) 5 := ⟨by decide, by decide⟩
theorem i54 : isN (nI 4) 5 := ⟨by decide, by decide⟩
theorem jS_mono {K' : Nat} (J : jS K W c s n) (h1 : K ≤ K') (h2 : K' < 2 ^ 30) : jS K' W c s n := ⟨⟨J.1.1, J.1.2.1, J.1.2.2.1, jB_mono J.1.2.2.2 h1 h2⟩, J.2⟩
theorem jS.p (J : jS K W c s n) (ok : kOk W h) (hz : z.1 < h.1) (hC : kC W + 1 < 1200) : kP z W h c n := ⟨ok, J.1.1.wf, J.1.2.2.2.wa, J.1.1.rf (fun t t1 t2 => by have := (J.1.2.2.2.ga t t1 t2).2; omega), J.1.1.ls, hz, by have := J.1.1.1.2.2.2; omega, hC⟩
theorem jS.now (J : jS K W c s n) : mNow c = mNow s := mNow_eq J.1.2.2.2.1 J.1.2.2.2.2.2.1
theorem jE.pl (E : jE W c s) (t a : Nat) : mPlace c t a = mPlace s t a := by
  obtain ⟨e1, e2, e3, e4, e5, e6, e8, e9, e10, e11, e12, e14, e13, e7⟩ := E
  unfold mPlace
  rw [e14, e1, e8]
theorem jE.tab (E : jE W c s) (t a : Nat) : kTab c t a = kTab s t a := by
  obtain ⟨e1, e2, e3, e4, e5, e6, e8, e9, e10, e11, e12, e14, e13, e7⟩ := E
  unfold kTab
  rw [e14, e1, e8]
theorem jE.cap (E : jE W c s) (t a : Nat) : mCapa c t a = mCapa s t a := by
  unfold mCapa
  rw [E.pl, E.2.2.2.2.2.2.2.2.2.2.2.1]
theorem jA.mwf (J : jA W c n) (E : jE W c s) : mWF s := by
  obtain ⟨e1, e2, e3, e4, e5, e6, e8, e9, e10, e11, e12, e14, e13, e7⟩ := E
  obtain ⟨⟨b1, b2, b3, b4⟩, a1, a2, a3, a4, -⟩ := J
  refine ⟨fun i hi => ?_, fun k hk => ?_⟩
  · rw [← e14]
    rcases a1 i hi with e | ⟨k, k1, k2, e, -⟩
    · rw [e]; exact isN_nI (n := 0) (by omega) (by omega)
    · rw [e]; exact isN_nI (by omega) (by omega)
  · rw [← e8]
    by_cases q : k = 0 ∨ kC W < k
    · rw [(a4 k q).1]; exact isN_nI (n := 0) (by omega) (by omega)
    · obtain ⟨⟨o, e, ho, -⟩, -⟩ := a3 k (by omega) (by omega)
      rw [e]; exact isN_nI (by omega) (by omega)
theorem jA.mpar (J : jA W c n) (E : jE W c s) : mPar s := by
  obtain ⟨e1, e2, e3, e4, e5, e6, e8, e9, e10, e11, e12, e14, e13, e7⟩ := E
  obtain ⟨⟨b1, b2, b3, b4⟩, a1, a2, a3, a4, -⟩ := J
  intro k hk
  rw [← e11]
  by_cases q : k = 0 ∨ kC W < k
  · rw [(a4 k q).2.1]
    exact ⟨isN_nI (n := 0) (by omega) (by omega), Or.inr rfl⟩
  · have := (a3 k (by omega) (by omega)).2.1
    exact ⟨isN_mono this (by omega), Or.inl this.2⟩
theorem jB.mws (J : jB K W c s) (hC : kC W + 1 ≤ 1200) : mWS s := fun u hu => ⟨(J.2.2.2.2.2.2.2.2.1 u hu).2.2, isN_mono (J.2.2.2.2.2.2.2.2.1 u hu).2.1 hC, (J.2.2.2.2.2.2.2.2.1 u hu).1⟩
theorem jC.mwb (J : jC c s) : mWB s := by
  intro g hg
  rcases J.2.2.2.2 g hg with e | ⟨b, b1, b2, -⟩
  · rw [e]; exact isN_nI (n := 0) (by omega) (by omega)
  · rw [b2]; exact isN_nI (by omega) (by omega)
theorem mPutC_fn {N sl f : Nat} {o r b p : Int32} (h1 : f ≠ 8) (h2 : f ≠ 9) (h3 : f ≠ 10) (h4 : f ≠ 11) (h5 : f ≠ 12) (h6 : f ≠ 13) (h7 : f ≠ 14) : mPutC s N sl o r b p f = s f := by
  unfold mPutC
  rw [sS_fn h7, sS_fn h5, sS_fn h4, sS_fn h3, sS_fn h2, sS_fn h1, sS_fn h6]
theorem jE_put {W' : kW} {c' : mS} (E : jE W c s) {th o i : Nat} {r b p : Int32} (D : kAdd1 W c n th r b p o i W' c') : jE W' c' (mPutC s (kC W) (8 * o + i) (nI th) r b p) := by
  obtain ⟨e1, e2, e3, e4, e5, e6, e8, e9, e10, e11, e12, e14, e13, e7⟩ := E
  obtain ⟨d1, d2, d3, d4, d5, d6, d7, d8, d9⟩ := D
  subst d9
  have fn := fun f h1 h2 h3 h4 h5 h6 h7 => mPutC_fn (s := s) (N := kC W) (sl := 8 * o + i) (o := nI th) (r := r) (b := b) (p := p) (f := f) h1 h2 h3 h4 h5 h6 h7
  refine ⟨?_, ?_, ?_, ?_, ?_, ?_, ?_, ?_, ?_, ?_, ?_, ?_, ?_, ?_⟩
  · rw [fn _ (by decide) (by decide) (by decide) (by decide) (by decide) (by decide) (by decide)]; exact e1
  · rw [fn _ (by decide) (by decide) (by decide) (by decide) (by decide) (by decide) (by decide)]; exact e2
  · rw [fn _ (by decide) (by decide) (by decide) (by decide) (by decide) (by decide) (by decide)]; exact e3
  · rw [fn _ (by decide) (by decide) (by decide) (by decide) (by decide) (by decide) (by decide)]; exact e4
  · rw [fn _ (by decide) (by decide) (by decide) (by decide) (by decide) (by decide) (by decide)]; exact e5
  · rw [fn _ (by decide) (by decide) (by decide) (by decide) (by decide) (by decide) (by decide)]; exact e6
  · funext k
    simp only [kDerS, kPutS, kLadd, cNew, mPutC, sS_app, Nat.reduceEqDiff, true_and, false_and, ↓reduceIte, e8]
  · funext k
    simp only [kDerS, kPutS, kLadd, cNew, mPutC, sS_app, Nat.reduceEqDiff, true_and, false_and, ↓reduceIte, e9]
  · funext k
    simp only [kDerS, kPutS, kLadd, cNew, mPutC, sS_app, Nat.reduceEqDiff, true_and, false_and, ↓reduceIte, e10]
  · funext k
    simp only [kDerS, kPutS, kLadd, cNew, mPutC, sS_app, Nat.reduceEqDiff, true_and, false_and, ↓reduceIte, e11]
  · funext k
    simp only [kDerS, kPutS, kLadd, cNew, mPutC, sS_app, Nat.reduceEqDiff, true_and, false_and, ↓reduceIte, e12]
  · funext k
    simp only [kDerS, kPutS, kLadd, cNew, mPutC, sS_app, Nat.reduceEqDiff, true_and, false_and, ↓reduceIte, e14]
  · rw [mPutC_13, d7]
  · rw [fn _ (by decide) (by decide) (by decide) (by decide) (by decide) (by decide) (by decide), d6]; exact e7
theorem jS_put {W' : kW} {c' : mS} (J : jS K W c s n) {th o i : Nat} {r b p : Int32} (D : kAdd1 W c n th r b p o i W' c') (X : kXt W W') (hC : kC W + 1 < 1200) (hth : th < 2 ∨ 5 ≤ th) (ht : ¬ c 6 th = 0) (hr : isN r 8) (hp : isN p (kC W + 1)) (hb : th < 2 → isN b 4 ∧ ¬ b = 0) : jS K W' c' (mPutC s (kC W) (8 * o + i) (nI th) r b p) (n + 1) := by
  obtain ⟨⟨JA, JT, JE, JB⟩, JC, JD⟩ := J
  have hcap : kcap W' ≤ 40000 := by
    have := JA.ls.2.2.2.1
    rcases X.2.2 with e | e <;> omega
  have JA' := jA_der JA D hC hth hr hp hcap X.2.1
  have JE' := jE_put JE D
  obtain ⟨d1, d2, d3, d4, d5, d6, d7, d8, d9⟩ := D
  have hT := JA.1.2.1
  subst d9
  refine ⟨⟨JA', ?_, JE', ?_⟩, ?_, ?_⟩
  · refine ⟨fun k k1 k2 k3 => ?_, JT.2⟩
    rw [d7] at k2
    by_cases e : k = kC W + 1
    · subst e
      rw [kDer_8, vN_nI (by omega)]
      exact ht
    · rw [kDer_ne e (by decide) (by decide) (by decide) (by decide) (by decide)] at k3 ⊢
      exact JT.1 k k1 (by omega) k3
  · refine jB_of JB (fun f hf => ?_) (fun f hf => mPutC_fn (by omega) (by omega) (by omega) (by omega) (by omega) (by omega) (by omega)) (fun x _ => rfl) (by omega) (by omega)
    funext u
    have h1 : f ≠ 8 := by omega
    have h2 : f ≠ 9 := by omega
    have h3 : f ≠ 10 := by omega
    have h4 : f ≠ 11 := by omega
    have h5 : f ≠ 12 := by omega
    have h6 : f ≠ 14 := by omega
    have h7 : f ≠ 61 := by omega
    have h8 : f ≠ 64 := by omega
    have h9 : f ≠ 65 := by omega
    have h10 : f ≠ 70 := by omega
    have h11 : f ≠ 71 := by omega
    have h12 : f ≠ 72 := by omega
    simp only [kDerS, kPutS, kLadd, cNew, sS_app, h1, h2, h3, h4, h5, h6, h7, h8, h9, h10, h11, h12, false_and, ↓reduceIte]
  · exact JC
  · refine ⟨fun k k1 k2 k3 => ?_, fun x hx => JD.2 x (by omega)⟩
    rw [d7] at k2
    by_cases e : k = kC W + 1
    · subst e
      rw [kDer_8, vN_nI (by omega)] at k3
      rw [kDer_10]
      exact hb k3
    · rw [kDer_ne e (by decide) (by decide) (by decide) (by decide) (by decide)] at k3 ⊢
      exact JD.1 k k1 (by omega) k3
end LI
