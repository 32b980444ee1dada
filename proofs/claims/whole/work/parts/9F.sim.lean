/-! Alike: the files. -/
section LQ
variable {W : kW} {c s : mS} {n K : Nat}
theorem kFd_some {bd f : Int32} {q : Nat} (hq : ¬ c 73 q = 0 ∧ c 74 q = bd ∧ c 75 q = f) : ∀ (n b : Nat), b ≤ q → q < b + n → (∀ x, b ≤ x → x < q → ¬ (¬ c 73 x = 0 ∧ c 74 x = bd ∧ c 75 x = f)) → kFd c bd f n b = some q
  | 0, b, h1, h2, _ => by omega
  | n + 1, b, h1, h2, hu => by
    unfold kFd
    by_cases e : b = q
    · rw [e, if_pos hq]
    · rw [if_neg (hu b (Nat.le_refl _) (by omega))]
      exact kFd_some hq n (b + 1) (by omega) (by omega) (fun x x1 x2 => hu x (by omega) x2)
theorem kFd_none {bd f : Int32} : ∀ (n b : Nat), (∀ x, b ≤ x → x < b + n → ¬ (¬ c 73 x = 0 ∧ c 74 x = bd ∧ c 75 x = f)) → kFd c bd f n b = none
  | 0, b, _ => rfl
  | n + 1, b, hu => by
    unfold kFd
    rw [if_neg (hu b (Nat.le_refl _) (by omega))]
    exact kFd_none n (b + 1) (fun x x1 x2 => hu x (by omega) (by omega))
/-- a block is a client's file's -/
theorem jC_blk (J : jC c s) {d f x : Nat} (hd : d < 4) (hf : f < 4) (hx : x < 6) : (¬ c 73 x = 0 ∧ c 74 x = nI d ∧ c 75 x = nI f) ↔ s 34 (4 * d + f) = nI (x + 1) := by
  obtain ⟨j1, j2, j3, j4, j5⟩ := J
  constructor
  · rintro ⟨a1, a2, a3⟩
    obtain ⟨d', f', h1, h2, h3, h4, h5⟩ := j4 x hx a1
    rw [a2] at h3
    rw [a3] at h4
    have u1 := (nI_eq (by omega) (by omega)).mp h3
    have u2 := (nI_eq (by omega) (by omega)).mp h4
    subst u1 u2
    exact h5
  · intro e
    rcases j5 (4 * d + f) (by omega) with q | ⟨b, b1, b2, b3, b4, b5⟩
    · rw [q] at e
      exact absurd e.symm (nI_ne0 (by omega) (by omega))
    · rw [b2] at e
      have := (nI_eq (by omega) (by omega)).mp e
      have : b = x := by omega
      subst this
      rw [show (4 * d + f) / 4 = d by omega] at b4
      rw [show (4 * d + f) % 4 = f by omega] at b5
      exact ⟨b3, b4, b5⟩
theorem jC_fd (J : jC c s) {d f : Nat} (hd : d < 4) (hf : f < 4) : (s 34 (4 * d + f) = 0 ∧ kFd c (nI d) (nI f) 6 0 = none) ∨ ∃ x, x < 6 ∧ s 34 (4 * d + f) = nI (x + 1) ∧ kFd c (nI d) (nI f) 6 0 = some x := by
  rcases J.2.2.2.2 (4 * d + f) (by omega) with q | ⟨x, x1, x2, x3, x4, x5⟩
  · refine Or.inl ⟨q, kFd_none 6 0 (fun y _ y2 w => ?_)⟩
    have := (jC_blk J hd hf (by omega)).mp w
    rw [q] at this
    exact nI_ne0 (by omega) (by omega) this.symm
  · refine Or.inr ⟨x, x1, x2, kFd_some ((jC_blk J hd hf x1).mpr x2) 6 0 (Nat.zero_le _) (by omega) (fun y _ y2 w => ?_)⟩
    have := (jC_blk J hd hf (by omega)).mp w
    rw [x2] at this
    have := (nI_eq (by omega) (by omega)).mp this
    omega
theorem jC_fe (J : jC c s) : ∀ (k b : Nat), b + k = 6 → (kFe c k b = none ∧ mFreeN s k (b + 1) = 0) ∨ ∃ x, x < 6 ∧ kFe c k b = some x ∧ mFreeN s k (b + 1) = x + 1 ∧ c 73 x = 0
  | 0, b, _ => Or.inl ⟨rfl, rfl⟩
  | k + 1, b, hb => by
    have e := jC_free J (show b < 6 by omega)
    unfold kFe mFreeN
    by_cases q : c 73 b = 0
    · rw [if_pos q, if_pos (e.mpr q)]
      exact Or.inr ⟨b, by omega, rfl, rfl, q⟩
    · rw [if_neg q, if_neg (fun w => q (e.mp w))]
      exact jC_fe J k (b + 1) (by omega)
-- one cell is written
theorem kRd_35 {b : Nat} : kRd c b 35 = c 35 := by
  funext x
  simp only [kRd, kFill, sS_app, Nat.reduceEqDiff, false_and, ↓reduceIte]
theorem kWrC_35 {b i x : Nat} {v : Int32} (hi : i < 8) : kWrC c b i v 35 x = if x = 8 * b + i then v else c 35 x := by
  have e : kWrC c b i v 35 x = va_cpy (sS (kRd c b) 76 i v 76) (sS (kRd c b) 76 i v 35) 0 (8 * b) 8 x := by
    simp only [kWrC, kWr, kStore, sS_app, Nat.reduceEqDiff, false_and, ↓reduceIte]
  rw [e]
  by_cases q : 8 * b ≤ x ∧ x < 8 * b + 8
  · rw [pk_cpy_in q.1 q.2, Nat.zero_add, sS_app]
    by_cases w : x = 8 * b + i
    · rw [if_pos ⟨rfl, by omega⟩, if_pos w]
    · rw [if_neg (fun y => w (by omega)), if_neg w]
      show va_cpy (c 35) (c 76) (8 * b) 0 8 (x - 8 * b) = c 35 x
      rw [pk_cpy_in (Nat.zero_le _) (by omega), Nat.sub_zero, show 8 * b + (x - 8 * b) = x by omega]
  · rw [pk_cpy_out (by omega), if_neg (by omega), sS_fn (by decide), kRd_35]
theorem kWrC_36 {b i : Nat} {v : Int32} : kWrC c b i v 36 0 = c 36 0 + 1 := by
  simp only [kWrC, kWr, kStore, kRd, kFill, sS_app, Nat.reduceEqDiff, false_and, and_self, ↓reduceIte]
theorem kWrC_37 {b i : Nat} {v : Int32} : kWrC c b i v 37 0 = c 37 0 + 1 := by
  simp only [kWrC, kWr, kStore, kRd, kFill, sS_app, Nat.reduceEqDiff, false_and, and_self, ↓reduceIte]
theorem kWrC_fn {b i f : Nat} {v : Int32} (h1 : f ≠ 35) (h2 : f ≠ 36) (h3 : f ≠ 37) (h4 : f ≠ 76) : kWrC c b i v f = c f := by
  funext x
  simp only [kWrC, kWr, kStore, kRd, kFill, sS_app, h1, h2, h3, h4, false_and, ↓reduceIte]
theorem jC_wr (J : jC c s) {g x i o m : Nat} (hg : g < 16) (hx : x < 6) (hi : i < 8) (e : s 34 g = nI (x + 1)) (him : m % 8 = i) : jC (kWrC c x i (nI o - nI 3)) (mWrC s g m o) := by
  have hv : vN (s 34 g) = x + 1 := by rw [e, vN_nI (by omega)]
  have f34 : mWrC s g m o 34 = s 34 := by
    unfold mWrC
    rw [sS_fn (by decide), sS_fn (by decide), sS_fn (by decide)]
  have f35 : ∀ y, mWrC s g m o 35 y = if y = 8 * x + i then nI o - nI 3 else s 35 y := fun y => by
    simp only [mWrC, sS_app, Nat.reduceEqDiff, true_and, false_and, ↓reduceIte, hv, him, show 8 * (x + 1) - 8 + i = 8 * x + i by omega]
  have f36 : mWrC s g m o 36 0 = s 36 0 + 1 := by
    simp only [mWrC, sS_app, Nat.reduceEqDiff, false_and, and_self, ↓reduceIte]
  have f37 : mWrC s g m o 37 0 = s 37 0 + 1 := by
    simp only [mWrC, sS_app, Nat.reduceEqDiff, false_and, and_self, ↓reduceIte]
  obtain ⟨j1, j2, j3, j4, j5⟩ := J
  refine ⟨by rw [kWrC_36, f36, j1], by rw [kWrC_37, f37, j2], fun y hy => ?_, ?_, ?_⟩
  · rw [kWrC_35 hi, f35]
    by_cases q : y = 8 * x + i
    · rw [if_pos q, if_pos q]
    · rw [if_neg q, if_neg q]
      exact j3 y hy
  · rw [kWrC_fn (f := 73) (by decide) (by decide) (by decide) (by decide), kWrC_fn (f := 74) (by decide) (by decide) (by decide) (by decide), kWrC_fn (f := 75) (by decide) (by decide) (by decide) (by decide), f34]
    exact j4
  · rw [kWrC_fn (f := 73) (by decide) (by decide) (by decide) (by decide), kWrC_fn (f := 74) (by decide) (by decide) (by decide) (by decide), kWrC_fn (f := 75) (by decide) (by decide) (by decide) (by decide), f34]
    exact j5
-- a new file
theorem kNewF_fn {b f : Nat} {bd fl : Int32} (h1 : f ≠ 35) (h2 : f ≠ 37) (h3 : f ≠ 73) (h4 : f ≠ 74) (h5 : f ≠ 75) (h6 : f ≠ 76) : kNewF c b bd fl f = c f := by
  funext x
  simp only [kNewF, kWr, kStore, kClr, sS_app, h1, h2, h3, h4, h5, h6, false_and, ↓reduceIte]
theorem kNewF_35 {b x : Nat} {bd fl : Int32} : kNewF c b bd fl 35 x = if 8 * b ≤ x ∧ x < 8 * b + 8 then 0 else c 35 x := by
  have e : kNewF c b bd fl 35 x = va_cpy (kClr (sS (sS (sS c 73 b 1) 74 b bd) 75 b fl) 8 76) (kClr (sS (sS (sS c 73 b 1) 74 b bd) 75 b fl) 8 35) 0 (8 * b) 8 x := by
    simp only [kNewF, kWr, kStore, sS_app, Nat.reduceEqDiff, false_and, ↓reduceIte]
  rw [e]
  by_cases q : 8 * b ≤ x ∧ x < 8 * b + 8
  · rw [pk_cpy_in q.1 q.2, Nat.zero_add, if_pos q]
    exact if_pos ⟨rfl, by omega⟩
  · rw [pk_cpy_out (by omega), if_neg q]
    rfl
theorem kNewF_73 {b x : Nat} {bd fl : Int32} : kNewF c b bd fl 73 x = if x = b then 1 else c 73 x := by
  simp only [kNewF, kWr, kStore, kClr, sS_app, Nat.reduceEqDiff, false_and, true_and, ↓reduceIte]
theorem kNewF_74 {b x : Nat} {bd fl : Int32} : kNewF c b bd fl 74 x = if x = b then bd else c 74 x := by
  simp only [kNewF, kWr, kStore, kClr, sS_app, Nat.reduceEqDiff, false_and, true_and, ↓reduceIte]
theorem kNewF_75 {b x : Nat} {bd fl : Int32} : kNewF c b bd fl 75 x = if x = b then fl else c 75 x := by
  simp only [kNewF, kWr, kStore, kClr, sS_app, Nat.reduceEqDiff, false_and, true_and, ↓reduceIte]
theorem kNewF_37 {b : Nat} {bd fl : Int32} : kNewF c b bd fl 37 0 = c 37 0 + 1 := by
  simp only [kNewF, kWr, kStore, kClr, sS_app, Nat.reduceEqDiff, false_and, and_self, ↓reduceIte]
theorem mZero_35 (d x : Nat) (s : mS) : ∀ k, mZero d k s 35 x = if 8 * d - 8 ≤ x ∧ x < 8 * d - 8 + k then 0 else s 35 x
  | 0 => by
    rw [if_neg (by omega)]
    rfl
  | k + 1 => by
    unfold mZero
    rw [sS_app, mZero_35 d x s k]
    by_cases q : x = 8 * d - 8 + k
    · rw [if_pos ⟨rfl, q⟩, if_pos (by omega)]
    · rw [if_neg (fun w => q w.2)]
      by_cases w : 8 * d - 8 ≤ x ∧ x < 8 * d - 8 + k
      · rw [if_pos w, if_pos (by omega)]
      · rw [if_neg w, if_neg (by omega)]
theorem jC_new (J : jC c s) {d f x : Nat} (hd : d < 4) (hf : f < 4) (hx : x < 6) (hfree : c 73 x = 0) (h0 : s 34 (4 * d + f) = 0) : jC (kNewF c x (nI d) (nI f)) (mZero (x + 1) 8 (sS (sS s 34 (4 * d + f) (nI (x + 1))) 37 0 (s 37 0 + 1))) := by
  have f34 : ∀ g, mZero (x + 1) 8 (sS (sS s 34 (4 * d + f) (nI (x + 1))) 37 0 (s 37 0 + 1)) 34 g = if g = 4 * d + f then nI (x + 1) else s 34 g := fun g => by
    rw [mZero_ne _ (by decide)]
    simp only [sS_app, Nat.reduceEqDiff, true_and, false_and, ↓reduceIte]
  have f36 : mZero (x + 1) 8 (sS (sS s 34 (4 * d + f) (nI (x + 1))) 37 0 (s 37 0 + 1)) 36 0 = s 36 0 := by
    rw [mZero_ne _ (by decide)]
    simp only [sS_app, Nat.reduceEqDiff, false_and, ↓reduceIte]
  have f37 : mZero (x + 1) 8 (sS (sS s 34 (4 * d + f) (nI (x + 1))) 37 0 (s 37 0 + 1)) 37 0 = s 37 0 + 1 := by
    rw [mZero_ne _ (by decide)]
    simp only [sS_app, and_self, ↓reduceIte]
  have f35 : ∀ y, mZero (x + 1) 8 (sS (sS s 34 (4 * d + f) (nI (x + 1))) 37 0 (s 37 0 + 1)) 35 y = if 8 * x ≤ y ∧ y < 8 * x + 8 then 0 else s 35 y := fun y => by
    rw [mZero_35, show 8 * (x + 1) - 8 = 8 * x by omega]
    rfl
  have J0 := J
  obtain ⟨j1, j2, j3, j4, j5⟩ := J
  refine ⟨?_, by rw [kNewF_37, f37, j2], fun y hy => ?_, fun b hb h => ?_, fun g hg => ?_⟩
  · rw [kNewF_fn (by decide) (by decide) (by decide) (by decide) (by decide) (by decide), f36]
    exact j1
  · rw [kNewF_35, f35]
    by_cases q : 8 * x ≤ y ∧ y < 8 * x + 8
    · rw [if_pos q, if_pos q]
    · rw [if_neg q, if_neg q]
      exact j3 y hy
  · rw [kNewF_73] at h
    rw [kNewF_74, kNewF_75]
    by_cases q : b = x
    · rw [if_pos q, if_pos q]
      exact ⟨d, f, hd, hf, rfl, rfl, by rw [f34, if_pos rfl, q]⟩
    · rw [if_neg q] at h
      rw [if_neg q, if_neg q]
      obtain ⟨d', f', h1, h2, h3, h4, h5⟩ := j4 b hb h
      refine ⟨d', f', h1, h2, h3, h4, ?_⟩
      rw [f34, if_neg]
      · exact h5
      · intro w
        rw [w, h0] at h5
        exact nI_ne0 (by omega) (by omega) h5.symm
  · rw [f34]
    by_cases q : g = 4 * d + f
    · rw [if_pos q]
      refine Or.inr ⟨x, hx, rfl, ?_, ?_, ?_⟩
      · rw [kNewF_73, if_pos rfl]; decide
      · rw [kNewF_74, if_pos rfl, q, show (4 * d + f) / 4 = d by omega]
      · rw [kNewF_75, if_pos rfl, q, show (4 * d + f) % 4 = f by omega]
    · rw [if_neg q]
      rcases j5 g hg with w | ⟨b, b1, b2, b3, b4, b5⟩
      · exact Or.inl w
      · have hbx : b ≠ x := fun w => b3 (by rw [w]; exact hfree)
        exact Or.inr ⟨b, b1, b2, by rw [kNewF_73, if_neg hbx]; exact b3, by rw [kNewF_74, if_neg hbx]; exact b4, by rw [kNewF_75, if_neg hbx]; exact b5⟩
theorem sim_files (J : jC c s) {d : Nat} (hd : d < 4) (w : Int32) : (kServe c (nI d) w).1 = (mFiles s w d).1 ∧ jC (kServe c (nI d) w).2 (mFiles s w d).2 := by
  unfold kServe mFiles
  by_cases k0 : w < 0
  · rw [if_pos k0, if_pos (Or.inl k0)]
    exact ⟨rfl, J⟩
  rw [if_neg k0]
  generalize vN w / 100 = o
  generalize hm : vN w % 100 = m
  by_cases k2 : o = 2
  · subst k2
    by_cases k3 : m < 32
    · rw [if_pos ⟨rfl, k3⟩, if_neg (by rintro (q | q | q); exact k0 q; exact q ⟨by decide, by decide⟩; exact q (by rw [if_neg (by decide)]; omega))]
      have eg : mFil 2 m d = 4 * d + m / 8 := by unfold mFil; rw [if_neg (by decide)]
      rw [eg]
      unfold mFilesG kReadC
      rw [if_neg (by decide), if_pos rfl]
      rcases jC_fd J hd (show m / 8 < 4 by omega) with ⟨h1, h2⟩ | ⟨x, x1, x2, x3⟩
      · rw [h1, h2, if_pos rfl]
        exact ⟨rfl, J⟩
      · rw [x2, x3, if_neg (nI_ne0 (by omega) (by omega)), vN_nI (by omega)]
        refine ⟨?_, ?_⟩
        · show c 35 (8 * x + m % 8) = s 35 (8 * (x + 1) - 8 + m % 8)
          rw [show 8 * (x + 1) - 8 = 8 * x by omega]
          exact J.2.2.1 _ (by omega)
        · obtain ⟨j1, j2, j3, j4, j5⟩ := J
          refine ⟨?_, j2, ?_, j4, j5⟩
          · show kRd c x 36 0 = sS s 36 0 (s 36 0 + 1) 36 0
            simp only [kRd, sS_app, and_self, ↓reduceIte, j1]
          · intro y hy
            show kRd c x 35 y = s 35 y
            rw [kRd_35]
            exact j3 y hy
    · rw [if_neg (fun q => k3 q.2), if_neg (by omega), if_neg (by omega), if_pos (Or.inr (Or.inr (by rw [if_neg (by decide)]; omega)))]
      exact ⟨rfl, J⟩
  rw [if_neg (fun q => k2 q.1)]
  by_cases k3 : 3 ≤ o ∧ o ≤ 12
  · by_cases k4 : m < 32
    · rw [if_pos ⟨k3.1, k3.2, k4⟩, if_neg (by rintro (q | q | q); exact k0 q; exact q ⟨by omega, by omega⟩; exact q (by rw [if_neg (by omega)]; omega))]
      have eg : mFil o m d = 4 * d + m / 8 := by unfold mFil; rw [if_neg (by omega)]
      rw [eg]
      unfold mFilesG kWriteC
      rw [if_neg (by omega), if_neg k2]
      rcases jC_fd J hd (show m / 8 < 4 by omega) with ⟨h1, h2⟩ | ⟨x, x1, x2, x3⟩
      · rw [h2, if_neg (fun q => q h1)]
        rcases jC_fe J 6 0 rfl with ⟨f1, f2⟩ | ⟨x, x1, x2, x3, x4⟩
        · rw [f1, show mFree s = 0 from f2, if_pos rfl]
          refine ⟨rfl, ?_⟩
          have : sS s 34 (4 * d + m / 8) 0 = s := by
            funext f y
            rw [sS_app]
            by_cases q : f = 34 ∧ y = 4 * d + m / 8
            · rw [if_pos q, q.1, q.2, h1]
            · rw [if_neg q]
          rw [this]
          exact J
        · rw [x2, show mFree s = x + 1 from x3, if_neg (by omega)]
          refine ⟨rfl, jC_wr (jC_new J hd (by omega) x1 x4 h1) (by omega) x1 (Nat.mod_lt _ (by decide)) ?_ rfl⟩
          rw [mZero_ne _ (by decide)]
          simp only [sS_app, Nat.reduceEqDiff, false_and, and_self, ↓reduceIte]
      · rw [x3, if_pos (by rw [x2]; exact nI_ne0 (by omega) (by omega))]
        exact ⟨rfl, jC_wr J (by omega) x1 (Nat.mod_lt _ (by decide)) x2 rfl⟩
    · rw [if_neg (fun q => k4 q.2.2), if_neg (by omega), if_pos (Or.inr (Or.inr (by rw [if_neg (by omega)]; omega)))]
      exact ⟨rfl, J⟩
  rw [if_neg (fun q => k3 ⟨q.1, q.2.1⟩)]
  by_cases k5 : o = 13
  · subst k5
    by_cases k6 : m < 4
    · rw [if_pos ⟨rfl, k6⟩, if_neg (by rintro (q | q | q); exact k0 q; exact q ⟨by decide, by decide⟩; exact q (by rw [if_pos rfl]; omega))]
      have eg : mFil 13 m d = 4 * d + m := by unfold mFil; rw [if_pos rfl]
      rw [eg]
      unfold mFilesG kRemF
      rw [if_pos rfl]
      have J0 := J
      obtain ⟨j1, j2, j3, j4, j5⟩ := J
      rcases jC_fd J0 hd k6 with ⟨h1, h2⟩ | ⟨x, x1, x2, x3⟩
      · rw [h2, if_pos h1]
        have : sS s 34 (4 * d + m) 0 = s := by
          funext f y
          rw [sS_app]
          by_cases q : f = 34 ∧ y = 4 * d + m
          · rw [if_pos q, q.1, q.2, h1]
          · rw [if_neg q]
        refine ⟨rfl, ?_⟩
        dsimp only
        rw [this]
        exact J0
      · rw [x3, if_neg (by rw [x2]; exact nI_ne0 (by omega) (by omega))]
        have e73 : ∀ y, sS c 73 x 0 73 y = if y = x then 0 else c 73 y := fun y => by rw [sS_app]; simp only [true_and]
        have e34 : ∀ y, sS s 34 (4 * d + m) 0 34 y = if y = 4 * d + m then 0 else s 34 y := fun y => by rw [sS_app]; simp only [true_and]
        show (0 : Int32) = 0 ∧ jC (sS c 73 x 0) (sS s 34 (4 * d + m) 0)
        refine ⟨rfl, j1, j2, j3, fun b hb hh => ?_, fun g hg => ?_⟩
        · rw [e73] at hh
          by_cases q : b = x
          · rw [if_pos q] at hh
            exact absurd rfl hh
          · rw [if_neg q] at hh
            obtain ⟨d', f', h1, h2, h3, h4, h5⟩ := j4 b hb hh
            refine ⟨d', f', h1, h2, h3, h4, ?_⟩
            rw [e34, if_neg]
            · exact h5
            · intro y
              rw [y, x2] at h5
              have := (nI_eq (by omega) (by omega)).mp h5
              omega
        · rw [e34]
          by_cases q : g = 4 * d + m
          · rw [if_pos q]
            exact Or.inl rfl
          · rw [if_neg q]
            rcases j5 g hg with y | ⟨b, b1, b2, b3, b4, b5⟩
            · exact Or.inl y
            · refine Or.inr ⟨b, b1, b2, ?_, b4, b5⟩
              rw [e73, if_neg]
              · exact b3
              · intro y
                subst y
                have hg2 : 4 * (g / 4) + g % 4 = g := by omega
                have := (jC_blk J0 (show g / 4 < 4 by omega) (Nat.mod_lt _ (by decide)) b1).mp ⟨b3, b4, b5⟩
                obtain ⟨d', f', h1, h2, h3, h4, h5⟩ := j4 b b1 b3
                have y1 := (jC_blk J0 hd k6 x1).mpr x2
                rw [b4] at y1
                rw [b5] at y1
                have u1 := (nI_eq (by omega) (by omega)).mp y1.2.1
                have u2 := (nI_eq (by omega) (by omega)).mp y1.2.2
                omega
    · rw [if_neg (fun q => k6 q.2), if_pos (Or.inr (Or.inr (by rw [if_pos rfl]; omega)))]
      exact ⟨rfl, J⟩
  · rw [if_neg (fun q => k5 q.1), if_pos (Or.inr (Or.inl (by omega)))]
    exact ⟨rfl, J⟩
theorem kServe_fn {bd w : Int32} {f : Nat} (h1 : f ≠ 35) (h2 : f ≠ 36) (h3 : f ≠ 37) (h4 : f ≠ 73) (h5 : f ≠ 74) (h6 : f ≠ 75) (h7 : f ≠ 76) : (kServe c bd w).2 f = c f := by
  unfold kServe
  split
  · rfl
  split
  · unfold kReadC
    split
    · rfl
    · funext x
      simp only [kRd, kFill, sS_app, h2, h7, false_and, ↓reduceIte]
  split
  · unfold kWriteC
    split
    · exact kWrC_fn h1 h2 h3 h7
    · split
      · rfl
      · dsimp only
        rw [kWrC_fn h1 h2 h3 h7, kNewF_fn h1 h3 h4 h5 h6 h7]
  split
  · unfold kRemF
    split
    · dsimp only
      rw [sS_fn h4]
    · rfl
  · rfl
theorem mFiles_fn {d : Nat} {w : Int32} {f : Nat} (h1 : f ≠ 34) (h2 : f ≠ 35) (h3 : f ≠ 36) (h4 : f ≠ 37) : (mFiles s w d).2 f = s f := by
  have hw : ∀ (s : mS) g m o, mWrC s g m o f = s f := fun s g m o => by
    unfold mWrC
    rw [sS_fn h2, sS_fn h4, sS_fn h3]
  have hG : ∀ o m g, (mFilesG s o m g).2 f = s f := by
    intro o m g
    unfold mFilesG
    split
    · dsimp only
      rw [sS_fn h1]
    · split
      · split
        · rfl
        · dsimp only
          rw [sS_fn h3]
      · split
        · dsimp only
          rw [hw]
        · split
          · dsimp only
            rw [sS_fn h1]
          · dsimp only
            rw [hw]
            funext x
            rw [mZero_ne _ h2, sS_app, if_neg (fun q => h4 q.1), sS_app, if_neg (fun q => h1 q.1)]
  unfold mFiles
  by_cases q : w < 0 ∨ ¬ (2 ≤ vN w / 100 ∧ vN w / 100 ≤ 13) ∨ ¬ vN w % 100 ≤ (if vN w / 100 = 13 then 3 else 31)
  · rw [if_pos q]
  · rw [if_neg q]
    exact hG _ _ _
end LQ
