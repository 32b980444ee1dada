/-! ONE CALL OF THE SCRIPT, on the cells: the class's answer and the reference's, and both stay alike. -/
section LC
variable {z : xzs} {W : kW} {h : xH} {c s : mS} {n K m : Nat}
theorem jS_mEq {σ : mS} (J : jS K W c s n) (e : mEq s σ) : jS K W c σ n := by
  obtain ⟨⟨JA, JT, JE, JB⟩, JC, JD⟩ := J
  refine ⟨⟨JA, JT, ?_, ?_⟩, ?_, JD⟩
  · obtain ⟨e1, e2, e3, e4, e5, e6, e8, e9, e10, e11, e12, e14, e13, e7⟩ := JE
    refine ⟨?_, ?_, ?_, ?_, ?_, ?_, ?_, ?_, ?_, ?_, ?_, ?_, ?_, ?_⟩
    · rw [e 1 (by decide)]; exact e1
    · rw [e 2 (by decide)]; exact e2
    · rw [e 3 (by decide)]; exact e3
    · rw [e 4 (by decide)]; exact e4
    · rw [e 5 (by decide)]; exact e5
    · rw [e 6 (by decide)]; exact e6
    · rw [e 8 (by decide)]; exact e8
    · rw [e 9 (by decide)]; exact e9
    · rw [e 10 (by decide)]; exact e10
    · rw [e 11 (by decide)]; exact e11
    · rw [e 12 (by decide)]; exact e12
    · rw [e 14 (by decide)]; exact e14
    · rw [e 13 (by decide)]; exact e13
    · rw [e 7 (by decide)]; exact e7
  · exact jB_of JB (fun _ _ => rfl) (fun f hf => e f (by omega)) (fun _ _ => rfl) (Nat.le_refl _) (Nat.le_refl _)
  · obtain ⟨c1, c2, c3, c4, c5⟩ := JC
    refine ⟨by rw [e 36 (by decide)]; exact c1, by rw [e 37 (by decide)]; exact c2, fun i hi => by rw [e 35 (by decide)]; exact c3 i hi, fun b hb hn => ?_, fun g hg => ?_⟩
    · rw [e 34 (by decide)]; exact c4 b hb hn
    · rw [e 34 (by decide)]; exact c5 g hg
theorem kOk_of {h' : xH} (ok : kOk W h) (h1 : h'.1 = h.1) (h2 : xn h ≤ xn h') : kOk W h' := by
  refine ⟨fun f j D => ?_, ok.2⟩
  obtain ⟨a1, a2, a3⟩ := ok.1 f j D
  exact ⟨a1, by omega, by omega⟩
theorem kPut_idem (W : kW) (h : xH) (c c' : mS) : kPut W (kPut W h c) c' = kPut W h c' := by
  refine xH_ext rfl rfl fun a => ?_
  rw [xat_k, xat_k, xat_k]
  cases xat h a with
  | none => rfl
  | some e =>
    simp only [Option.map_some]
    cases kA W a <;> rfl
theorem mPut_idem (ok : mOk h m) (s s' : mS) : mPut (mPut h m s) m s' = mPut h m s' := by
  have ok' : mOk (mPut h m s) m := ⟨ok.1, by rw [mPut_n]; exact ok.2⟩
  refine xH_ext rfl rfl fun a => ?_
  rw [xat_mPut ok', xat_mPut ok, xat_mPut ok]
  split <;> rfl
/-- the reference's cells are none of the class's -/
def kApart (W : kW) (m : Nat) : Prop := ∀ a, m ≤ a → a < m + 33 → kA W a = none
theorem kPut_m (ok : mOk h m) (hd : kApart W m) (hk : kPut W h c = h) (s : mS) : kPut W (mPut h m s) c = mPut h m s := by
  refine xH_ext rfl rfl fun a => ?_
  rw [xat_k, xat_mPut ok]
  by_cases q : m ≤ a ∧ a < m + 33
  · rw [if_pos q, hd a q.1 q.2]
    rfl
  · rw [if_neg q]
    have := xat_k W h c a
    rw [hk] at this
    exact this.symm
theorem mPut_is {h' : xH} (ok : mOk h m) (ok' : mOk h' m) (hm : mPut h m s = h) (he : ∀ a, m ≤ a → a < m + 33 → xat h' a = xat h a) : mPut h' m s = h' := by
  refine xH_ext rfl rfl fun a => ?_
  rw [xat_mPut ok']
  by_cases q : m ≤ a ∧ a < m + 33
  · rw [if_pos q, he a q.1 q.2]
    have := xat_mPut (s := s) ok a
    rw [hm, if_pos q] at this
    exact this.symm
  · rw [if_neg q]
/-- what stands between two calls -/
def lInv (z : xzs) (x m o j : Nat) (h : xH) : Prop := ∃ W K c s n, kg W 0 0 = x ∧ kOk W h ∧ kPut W h c = h ∧ mOk h m ∧ mPut h m s = h ∧ jS K W c s n ∧ kApart W m ∧ kA W o = none ∧ ¬ (m ≤ o ∧ o < m + 33) ∧ (∃ f, xat h o = some (.inl (5, 1, .inr (.inl f)))) ∧ kC W ≤ 12 + j ∧ K ≤ 10 * j + 10 ∧ z.1 < h.1 ∧ xn h ≤ h.1 + 100 + 4 * j ∧ h.2.1 ≤ 30000 + 2100 * j
theorem lInv.next {x o j : Nat} (I : lInv z x m o j h) : lInv z x m o (j + 1) h := by
  obtain ⟨W, K, c, s, n, h1, h2, h3, h4, h5, h6, h7, h8, h9, h10, h11, h12, h13, h14, h15⟩ := I
  exact ⟨W, K, c, s, n, h1, h2, h3, h4, h5, h6, h7, h8, h9, h10, by omega, by omega, h13, by omega, by omega⟩
/-- the reference's turn, behind the class's -/
theorem l_ref {x o j : Nat} {h1 : xH} {fM : xF} {as : List Value} {q : mR} (ok : mOk h1 m) (hm : mPut h1 m s = h1) (hd : kApart W m) (hk : kPut W h1 c = h1) (kk : kOk W h1) (ho : ¬ (m ≤ o ∧ o < m + 33))
    (hM : ∀ hR, mOk hR m → mDone z hR m (fM (.ref m :: as) (mPut hR m s)) q) : ∃ σ, fM (.ref m :: as) h1 = some (.inl (some (.int q.2.1)), mPut h1 m σ) ∧ mEq q.2.2 σ ∧ f_M_thrown z [.ref m] (mPut h1 m σ) = some (.inl (some (.int q.1)), mPut h1 m σ) ∧ mOk (mPut h1 m σ) m ∧ mPut (mPut h1 m σ) m σ = mPut h1 m σ ∧ kPut W (mPut h1 m σ) c = mPut h1 m σ ∧ kOk W (mPut h1 m σ) ∧ xat (mPut h1 m σ) o = xat h1 o ∧ xn (mPut h1 m σ) = xn h1 := by
  obtain ⟨σ, e1, e2, e3⟩ := hM h1 ok
  rw [hm] at e1
  refine ⟨σ, e1, e2, by rw [t_M_thrown ok, e3], ⟨ok.1, by rw [mPut_n]; exact ok.2⟩, mPut_idem ok σ σ, kPut_m ok hd hk σ, kOk_of kk rfl (by rw [mPut_n]; exact Nat.le_refl _), ?_, mPut_n _ _ _⟩
  rw [xat_mPut ok, if_neg ho]
/-- ONE CALL that the law makes through a method that catches -/
theorem l_step {x o j : Nat} {fC fM : xF} {as : List Value} (I : lInv z x m o j h) (hj : j < 600)
    (hsim : ∀ W K c s n, jS K W c s n → kOk W h → z.1 < h.1 → kC W + 1 < 1200 → K + 10 < 2 ^ 30 → kSim z W h K c s n m fC fM as) :
    ∃ r r' k v h2 f fs fs1 fs2, xat h x = some (.inr (0, fs)) ∧ fC (.ref x :: as) h = some r ∧ wRes o r = some r' ∧ r'.1 = .inl (some (.int k)) ∧ xat r'.2 m = some (.inr (6, fs1)) ∧ fM (.ref m :: as) r'.2 = some (.inl (some (.int v)), h2) ∧ xat h2 m = some (.inr (6, fs2)) ∧
      f_M_thrown z [.ref m] h2 = some (.inl (some (.int k)), h2) ∧ xat h2 o = some (.inl (5, 1, .inr (.inl f))) ∧ (k = 0 → f 0 = v.toInt64) ∧ lInv z x m o (j + 1) h2 ∧ h2.1 = h.1 := by
  obtain ⟨W, K, c, s, n, i1, i2, i3, i4, i5, i6, i7, i8, i9, ⟨f, i10⟩, i11, i12, i13, i14, i15⟩ := I
  obtain ⟨q, hM, hD, hq, h5⟩ := hsim W K c s n i6 i2 i13 (by omega) (by omega)
  rw [i1, i3] at hD
  have hx : xat h x = some (kCell W c (0, 0)) := by
    rw [← i1]
    have := xat_kPut (c := c) i2 (kDom0 (j := 0) (by decide))
    rw [i3] at this
    exact this
  have hx0 : ∃ fs, kCell W c (0, 0) = .inr (0, fs) := ⟨_, rfl⟩
  obtain ⟨fs, hfs⟩ := hx0
  rw [hfs] at hx
  obtain ⟨hox1, hox2⟩ := xat_at i10
  have hoxn := xat_lt i10
  rcases hD with ⟨q0, hD⟩ | ⟨q0, W', h', c', hD, ⟨f1, f2, f3, f4, f5, f6⟩, X, ⟨n', J', hC'⟩⟩
  · -- refused
    have hv : 1 ≤ vN q.1 ∧ vN q.1 < 5 := ⟨by
      rcases Nat.eq_zero_or_pos (vN q.1) with w | w
      · exact absurd (by rw [h5.1, w]; rfl) q0
      · exact w, h5.2⟩
    have hg : xat (kPut W (kEx z h (7 + vN q.1)) c) (xn h) = some (.inr (7 + vN q.1, [.null, .ref (xn h), .int 0, .null, va_rf z.2.1, va_rf z.2.2.1])) := by
      rw [xat_kOut i2.new]
      exact xat_pushN _ _ _
    have hgo : ∀ a, a < xn h → kA W a = none → xat (kPut W (kEx z h (7 + vN q.1)) c) a = xat h a := by
      intro a ha hn
      rw [xat_kOut hn]
      unfold kEx
      rw [xat_push, if_neg (by omega)]
    have hn1 : xn (kPut W (kEx z h (7 + vN q.1)) c) = xn h + 1 := by
      rw [kPut_n]
      unfold kEx
      rw [xpush_n]
    have ok1 : mOk (kPut W (kEx z h (7 + vN q.1)) c) m := ⟨i4.1, by rw [hn1]; have := i4.2; omega⟩
    have hm1 : mPut (kPut W (kEx z h (7 + vN q.1)) c) m s = kPut W (kEx z h (7 + vN q.1)) c := mPut_is i4 ok1 i5 (fun a a1 a2 => hgo a (by have := i4.2; omega) (i7 a a1 a2))
    obtain ⟨σ, e1, e2, e3, e4, e5, e6, e7, e8, e9⟩ := l_ref (z := z) (x := x) (o := o) (j := j) ok1 hm1 i7 (kPut_idem W _ c c) (kOk_of i2 rfl (by rw [hn1]; omega)) i9 hM
    refine ⟨_, (.inl (some (.int (nI (vN q.1)))), kPut W (kEx z h (7 + vN q.1)) c), nI (vN q.1), q.2.1, _, f, fs, mFs m s, mFs m σ, hx, hD, ?_, rfl, ?_, e1, xat_m0 ok1, ?_, ?_, ?_, ?_, rfl⟩
    · show (xat (kPut W (kEx z h (7 + vN q.1)) c) (xn h)).bind _ = _
      rw [hg]
      show (if 8 ≤ 7 + vN q.1 ∧ 7 + vN q.1 < 12 then some _ else none) = _
      rw [if_pos ⟨by omega, by omega⟩, show 7 + vN q.1 - 7 = vN q.1 by omega]
    · rw [← hm1]
      exact xat_m0 ok1
    · rw [e3, ← h5.1]
    · rw [e8, hgo o hoxn i8, i10]
    · intro w
      exact absurd (h5.1.trans w) q0
    · refine ⟨W, K, c, σ, n, i1, e7, e6, e4, e5, jS_mEq i6 (by rw [← hq q0]; exact e2), i7, i8, i9, ⟨f, by rw [e8, hgo o hoxn i8, i10]⟩, by omega, by omega, i13, ?_, ?_⟩
      · rw [e9, hn1]
        show _ ≤ h.1 + 100 + 4 * (j + 1)
        omega
      · show h.2.1 + 6 ≤ _
        omega
  · -- done
    have hA : ∀ a, a < xn h → kA W a = none → xat (kPut W' h' c') a = xat h a := by
      intro a ha hn
      obtain ⟨g1, g2⟩ := f6 a ha hn
      rw [xat_kOut g1, g2]
    have hoA : xat (kPut W' h' c') o = some (.inl (5, 1, .inr (.inl f))) := by rw [hA o hoxn i8, i10]
    have hoA' : kA W' o = none := (f6 o hoxn i8).1
    have hap : kApart W' m := fun a a1 a2 => (f6 a (by have := i4.2; omega) (i7 a a1 a2)).1
    generalize he : (.inl (5, 1, .inr (.inl (vp_updL f 0 q.2.1.toInt64))) : va_E) = ee
    have hs1 : xset (kPut W' h' c') o ee = kPut W' (xset h' o ee) c' := kPut_setN hoA' ee (by omega) (by omega)
    have hn1 : xn (xset (kPut W' h' c') o ee) = xn h' := by rw [xset_n, kPut_n]
    have ok1 : mOk (xset (kPut W' h' c') o ee) m := ⟨by show h'.1 ≤ m; rw [f2]; exact i4.1, by rw [hn1]; have := i4.2; omega⟩
    have hset : ∀ a, xat (xset (kPut W' h' c') o ee) a = if a = o then some ee else xat (kPut W' h' c') a := fun a => xat_set hoA
    have hm1 : mPut (xset (kPut W' h' c') o ee) m s = xset (kPut W' h' c') o ee := mPut_is i4 ok1 i5 (fun a a1 a2 => by
      rw [hset, if_neg (fun w => i9 (by rw [← w]; exact ⟨a1, a2⟩)), hA a (by have := i4.2; omega) (i7 a a1 a2)])
    obtain ⟨σ, e1, e2, e3, e4, e5, e6, e7, e8, e9⟩ := l_ref (z := z) (x := x) (o := o) (j := j) (c := c') (W := W') ok1 hm1 hap (by rw [hs1]; exact kPut_idem W' _ c' c') (kOk_of f1 rfl (by rw [hn1]; exact Nat.le_refl _)) i9 hM
    refine ⟨_, (.inl (some (.int 0)), xset (kPut W' h' c') o ee), 0, q.2.1, _, vp_updL f 0 q.2.1.toInt64, fs, mFs m s, mFs m σ, hx, hD, ?_, rfl, ?_, e1, xat_m0 ok1, ?_, ?_, ?_, ?_, f2⟩
    · show (xat (kPut W' h' c') o).bind _ = _
      rw [hoA]
      show (if 0 < 1 then some _ else none) = _
      rw [if_pos (by decide), ← he]
    · rw [← hm1]
      exact xat_m0 ok1
    · rw [e3, q0]
    · rw [e8, hset, if_pos rfl, ← he]
    · intro _
      simp [vp_updL]
    · refine ⟨W', K + 10, c', σ, n', by rw [X.1 0 0 (by decide) (kDom0 (by decide))]; exact i1, e7, e6, e4, e5, jS_mEq J' e2, hap, hoA', i9, ⟨vp_updL f 0 q.2.1.toInt64, by rw [e8, hset, if_pos rfl, ← he]⟩, by omega, by omega, by show z.1 < h'.1; rw [f2]; exact i13, ?_, ?_⟩
      · rw [e9, hn1]
        show _ ≤ h'.1 + 100 + 4 * (j + 1)
        omega
      · refine Nat.le_trans (show (mPut (xset (kPut W' h' c') o ee) m σ).2.1 ≤ h.2.1 + 2100 from f5) ?_
        clear f5 f6 f4
        omega
end LC
