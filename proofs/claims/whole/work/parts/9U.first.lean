/-! THE FIRST STATE of class and reference: they are alike. -/
def Wk (k : Nat) : kW := (fun _ => none, fun _ _ => 0, 15, 10, k)
theorem mNewA_fn {s : mS} {k f : Nat} (h1 : f ≠ 1) (h2 : f ≠ 2) (h3 : f ≠ 6) (h4 : f ≠ 20) (h5 : f ≠ 21) : mNewA s k f = s f := by
  unfold mNewA
  rw [sS_fn h5, sS_fn h4, sS_fn h3, sS_fn h2, sS_fn h3, sS_fn h1]
theorem mNewA_cg {s s' : mS} {k f : Nat} (h : s f = s' f) : mNewA s k f = mNewA s' k f := by
  funext j
  simp only [mNewA, sS_app, h]
theorem mPutC_cg {s s' : mS} {N sl f : Nat} {o r b p : Int32} (h : s f = s' f) : mPutC s N sl o r b p f = mPutC s' N sl o r b p f := by
  funext j
  simp only [mPutC, sS_app, h]
theorem mNewA_put (s : mS) (k N sl : Nat) (o r b p : Int32) : mNewA (mPutC s N sl o r b p) k = mPutC (mNewA s k) N sl o r b p := by
  funext f
  by_cases hf : f = 8 ∨ f = 9 ∨ f = 10 ∨ f = 11 ∨ f = 12 ∨ f = 13 ∨ f = 14
  · rw [mNewA_fn (by omega) (by omega) (by omega) (by omega) (by omega)]
    exact mPutC_cg (mNewA_fn (by omega) (by omega) (by omega) (by omega) (by omega)).symm
  · rw [mPutC_fn (by omega) (by omega) (by omega) (by omega) (by omega) (by omega) (by omega)]
    exact mNewA_cg (mPutC_fn (by omega) (by omega) (by omega) (by omega) (by omega) (by omega) (by omega))
def s4 (s : mS) (k n : Nat) : mS := mPutC (mPutC (mPutC (mPutC s n (8 * (1 + k)) 0 (nI 2) (nI k) 0) (n + 1) (8 * (1 + k) + 1) (nI (4 + k)) (nI 7) 0 0) (n + 2) (8 * (1 + k) + 2) (nI 8) (nI 7) 0 0) (n + 3) (8 * (1 + k) + 3) (nI 9) (nI 7) 0 0
theorem mNewA_s4 (s : mS) (k k' n : Nat) : mNewA (s4 s k n) k' = s4 (mNewA s k') k n := by
  unfold s4
  rw [mNewA_put, mNewA_put, mNewA_put, mNewA_put]
theorem mSn_eq : mSn = s4 (s4 (s4 sE 1 0) 2 4) 3 8 := by
  show s4 (mNewA (s4 (mNewA (s4 (mNewA mS1 1) 1 0) 2) 2 4) 3) 3 8 = _
  rw [mNewA_s4, mNewA_s4, mNewA_s4]
  rfl
theorem isN_0 {b : Nat} (hb : 0 < b) : isN 0 b := ⟨by decide, by rw [show vN 0 = 0 by decide]; exact hb⟩
theorem sE_lt {P : Nat → Prop} (h : ∀ o, o < 10 → P o) : ∀ o, o < kT (Wk 0) → P o := h
set_option maxRecDepth 4000 in
theorem jS_E : jS 10 (Wk 0) sE sE 0 := by
  have z14 : ∀ q, sE 14 q = 0 := fun q => rfl
  have z8 : ∀ q, sE 8 q = 0 := fun q => rfl
  have z11 : ∀ q, sE 11 q = 0 := fun q => rfl
  have z12 : ∀ q, sE 12 q = 0 := fun q => rfl
  have z15 : ∀ q, sE 15 q = 0 := fun q => rfl
  have z52 : ∀ q, sE 52 q = 0 := fun q => rfl
  have z29 : ∀ q, sE 29 q = 0 := fun q => rfl
  have z26 : ∀ q, sE 26 q = 0 := fun q => rfl
  have z41 : ∀ q, sE 41 q = 0 := fun q => rfl
  have z56 : ∀ q, sE 56 q = 0 := fun q => rfl
  have z34 : ∀ q, sE 34 q = 0 := fun q => rfl
  have z73 : ∀ q, sE 73 q = 0 := fun q => rfl
  have i0 : ∀ b, 0 < b → isN 0 b := fun b hb => isN_0 hb
  refine ⟨⟨⟨⟨by decide, by decide, by decide, by decide⟩, ?_, ?_, ?_, ?_, ?_, ?_, ?_, ?_, ?_⟩, ?_, ?_, ?_⟩, ?_, ?_⟩
  · exact fun q _ => Or.inl (z14 q)
  · exact fun k k1 k2 => absurd (show k ≤ 0 from k2) (by omega)
  · exact fun k k1 k2 => absurd (show k ≤ 0 from k2) (by omega)
  · exact fun k _ => ⟨z8 k, z11 k, z12 k⟩
  · exact ⟨⟨rfl, by decide, by decide, by decide, fun i hi => absurd hi (Nat.not_lt_zero _), fun i _ => rfl⟩, fun i i' _ hi => absurd hi (Nat.not_lt_zero _), fun k k1 k2 => absurd (show k ≤ 0 from k2) (by omega)⟩
  · exact fun o _ => rfl
  · exact fun o ho => ⟨fun _ => rfl, fun w => absurd (show o < 10 from ho) (by omega)⟩
  · exact ⟨fun o _ => rfl, rfl, rfl⟩
  · refine ⟨sE_lt ?_, by decide +kernel, by decide +kernel, ?_, sE_lt ?_⟩
    · intro o ho
      rcases (by omega : o = 0 ∨ o = 1 ∨ o = 2 ∨ o = 3 ∨ o = 4 ∨ o = 5 ∨ o = 6 ∨ o = 7 ∨ o = 8 ∨ o = 9) with rfl | rfl | rfl | rfl | rfl | rfl | rfl | rfl | rfl | rfl
      · exact ⟨0, 0, by decide +kernel, by decide +kernel, by decide, by decide⟩
      · exact ⟨0, 0, by decide +kernel, by decide +kernel, by decide, by decide⟩
      · exact ⟨0, 0, by decide +kernel, by decide +kernel, by decide, by decide⟩
      · exact ⟨0, 0, by decide +kernel, by decide +kernel, by decide, by decide⟩
      · exact ⟨0, 0, by decide +kernel, by decide +kernel, by decide, by decide⟩
      · exact ⟨16, 0, by decide +kernel, by decide +kernel, by decide, by decide⟩
      · exact ⟨16, 0, by decide +kernel, by decide +kernel, by decide, by decide⟩
      · exact ⟨16, 0, by decide +kernel, by decide +kernel, by decide, by decide⟩
      · exact ⟨0, 0, by decide +kernel, by decide +kernel, by decide, by decide⟩
      · exact ⟨0, 0, by decide +kernel, by decide +kernel, by decide, by decide⟩
    · intro t t1 t2
      rcases (by omega : t = 1 ∨ t = 2 ∨ t = 3) with rfl | rfl | rfl <;> decide +kernel
    · have : ∀ o, o < 10 → sE 1 o = nI 3 → (2 ≤ o ∧ o < 5) ∨ 10 ≤ o := by decide +kernel
      exact this
  · exact ⟨fun k k1 k2 => absurd (show k ≤ 0 from k2) (by omega), by decide +kernel⟩
  · exact ⟨rfl, rfl, rfl, rfl, rfl, rfl, rfl, rfl, rfl, rfl, rfl, rfl, rfl, rfl⟩
  · refine ⟨⟨rfl, rfl, rfl, rfl, rfl, rfl, rfl⟩, ?_, ?_, ?_, ?_, ?_, ?_, ?_, ?_⟩
    · refine ⟨3, 3, rfl, rfl, ?_, ?_, by decide, fun t t1 t2 => ?_⟩
      · have : kWn sE = 0 := by decide +kernel
        rw [this]; decide
      · have : kWn sE = 0 := by decide +kernel
        rw [this]; decide
      · rcases (by omega : t = 1 ∨ t = 2 ∨ t = 3) with rfl | rfl | rfl
        · exact ⟨1, 1, 0, 0, 0, 0, by decide +kernel, by decide +kernel, by decide +kernel, by decide +kernel, by decide +kernel, by decide +kernel, by decide, by decide, by decide, by decide, by decide, by decide⟩
        · exact ⟨2, 2, 0, 0, 0, 0, by decide +kernel, by decide +kernel, by decide +kernel, by decide +kernel, by decide +kernel, by decide +kernel, by decide, by decide, by decide, by decide, by decide, by decide⟩
        · exact ⟨3, 3, 0, 0, 0, 0, by decide +kernel, by decide +kernel, by decide +kernel, by decide +kernel, by decide +kernel, by decide +kernel, by decide, by decide, by decide, by decide, by decide, by decide⟩
    · exact fun t u _ _ _ _ => ⟨Iff.rfl, Iff.rfl⟩
    · refine fun t t1 t2 => ⟨fun w => ?_, fun _ => z52 t⟩
      have w : sE 15 t = 1 ∨ sE 15 t = nI 2 ∨ sE 15 t = nI 4 ∨ sE 15 t = nI 5 := w
      rw [z15] at w
      exact absurd w (by decide)
    · exact fun t _ _ _ => ⟨rfl, rfl, rfl⟩
    · intro t t1 t2 w
      rw [z15] at w
      exact absurd w (by decide)
    · intro u t u1 u2 t1 t2 w
      rw [z29] at w
      have : t = 0 := by
        have e : vN (nI t) = t := vN_nI (by omega)
        rw [← w] at e
        exact e.symm
      omega
    · intro t u t1 t2 u1 u2 w
      rw [z15] at w
      exact absurd w (by decide)
    · refine ⟨fun u hu => ⟨?_, ?_, fun _ => ?_⟩, fun u u1 u2 => ⟨?_, ?_⟩⟩
      · rw [z29]; exact i0 _ (by decide)
      · rw [z26]; exact i0 _ (by decide)
      · rw [z41]; exact i0 _ (by decide)
      · rw [z26]; exact i0 _ (by decide)
      · rw [z56]; exact Nat.zero_le _
  · refine ⟨rfl, rfl, fun i _ => rfl, fun b _ w => absurd (z73 b) w, fun g _ => Or.inl (z34 g)⟩
  · exact ⟨fun k k1 k2 => absurd (show k ≤ 0 from k2) (by omega), fun o ho => ⟨rfl, rfl⟩⟩
/-- a capability of the beginning -/
theorem jS_1 {K k : Nat} {c s : mS} (J : jS K (Wk k) c s k) {th o i : Nat} {r b : Int32} (hk : k < 12) (hth : th < 10 ∧ (th < 2 ∨ 5 ≤ th)) (ho : o < 10) (hi : i < 8) (h1 : c 1 o = nI 3) (h2 : c 14 (8 * o + i) = 0) (h3 : ¬ c 6 th = 0) (hr : isN r 8) (hb : th < 2 → isN b 4 ∧ ¬ b = 0) : jS K (Wk (k + 1)) (kDerS c (k + 1) th r b 0 o i k) (mPutC s k (8 * o + i) (nI th) r b 0) (k + 1) := by
  refine jS_put (W' := Wk (k + 1)) J ⟨hth.1, ho, hi, h1, h2, rfl, rfl, ?_, rfl⟩ ⟨fun _ _ _ _ => rfl, ?_, Or.inl rfl⟩ ?_ hth.2 h3 hr (isN_0 (Nat.succ_pos _)) hb
  · show k + 1 ≤ 15
    omega
  · show 2 ≤ 15
    decide
  · show k + 1 < 1200
    omega
theorem i87 : isN (nI 7) 8 := ⟨by decide, by decide⟩
theorem i82 : isN (nI 2) 8 := ⟨by decide, by decide⟩
set_option maxRecDepth 4000 in
theorem jS_0 (b : Nat) : jS 10 (W0 b) c0 mSn 12 := by
  have J0 := jS_E
  have J1 := jS_1 (th := 0) (o := 2) (i := 0) (r := nI 2) (b := nI 1) J0 (by decide) ⟨by decide, by decide⟩ (by decide) (by decide) (by decide +kernel) (by decide +kernel) (by decide +kernel) i82 (fun _ => ⟨⟨by decide, by decide⟩, by decide⟩)
  have J2 := jS_1 (th := 5) (o := 2) (i := 1) (r := nI 7) (b := 0) J1 (by decide) ⟨by decide, by decide⟩ (by decide) (by decide) (by decide +kernel) (by decide +kernel) (by decide +kernel) i87 (fun w => absurd w (by decide))
  have J3 := jS_1 (th := 8) (o := 2) (i := 2) (r := nI 7) (b := 0) J2 (by decide) ⟨by decide, by decide⟩ (by decide) (by decide) (by decide +kernel) (by decide +kernel) (by decide +kernel) i87 (fun w => absurd w (by decide))
  have J4 := jS_1 (th := 9) (o := 2) (i := 3) (r := nI 7) (b := 0) J3 (by decide) ⟨by decide, by decide⟩ (by decide) (by decide) (by decide +kernel) (by decide +kernel) (by decide +kernel) i87 (fun w => absurd w (by decide))
  have J5 := jS_1 (th := 0) (o := 3) (i := 0) (r := nI 2) (b := nI 2) J4 (by decide) ⟨by decide, by decide⟩ (by decide) (by decide) (by decide +kernel) (by decide +kernel) (by decide +kernel) i82 (fun _ => ⟨⟨by decide, by decide⟩, by decide⟩)
  have J6 := jS_1 (th := 6) (o := 3) (i := 1) (r := nI 7) (b := 0) J5 (by decide) ⟨by decide, by decide⟩ (by decide) (by decide) (by decide +kernel) (by decide +kernel) (by decide +kernel) i87 (fun w => absurd w (by decide))
  have J7 := jS_1 (th := 8) (o := 3) (i := 2) (r := nI 7) (b := 0) J6 (by decide) ⟨by decide, by decide⟩ (by decide) (by decide) (by decide +kernel) (by decide +kernel) (by decide +kernel) i87 (fun w => absurd w (by decide))
  have J8 := jS_1 (th := 9) (o := 3) (i := 3) (r := nI 7) (b := 0) J7 (by decide) ⟨by decide, by decide⟩ (by decide) (by decide) (by decide +kernel) (by decide +kernel) (by decide +kernel) i87 (fun w => absurd w (by decide))
  have J9 := jS_1 (th := 0) (o := 4) (i := 0) (r := nI 2) (b := nI 3) J8 (by decide) ⟨by decide, by decide⟩ (by decide) (by decide) (by decide +kernel) (by decide +kernel) (by decide +kernel) i82 (fun _ => ⟨⟨by decide, by decide⟩, by decide⟩)
  have J10 := jS_1 (th := 7) (o := 4) (i := 1) (r := nI 7) (b := 0) J9 (by decide) ⟨by decide, by decide⟩ (by decide) (by decide) (by decide +kernel) (by decide +kernel) (by decide +kernel) i87 (fun w => absurd w (by decide))
  have J11 := jS_1 (th := 8) (o := 4) (i := 2) (r := nI 7) (b := 0) J10 (by decide) ⟨by decide, by decide⟩ (by decide) (by decide) (by decide +kernel) (by decide +kernel) (by decide +kernel) i87 (fun w => absurd w (by decide))
  have J12 := jS_1 (th := 9) (o := 4) (i := 3) (r := nI 7) (b := 0) J11 (by decide) ⟨by decide, by decide⟩ (by decide) (by decide) (by decide +kernel) (by decide +kernel) (by decide +kernel) i87 (fun w => absurd w (by decide))
  rw [mSn_eq]
  exact J12
