/-! The reference: files. -/
section MV
variable {z : xzs} {h : xH} {m : Nat} {s : mS}
def mWB (s : mS) : Prop := ∀ f, f < 16 → isN (s 34 f) 7
/-- a block's cells become 0 -/
def mZero (d : Nat) : Nat → mS → mS
  | 0, s => s
  | k + 1, s => sS (mZero d k s) 35 (8 * d - 8 + k) 0
theorem mZero_ne (d : Nat) {f : Nat} (hf : f ≠ 35) (j : Nat) (s : mS) : ∀ k, mZero d k s f j = s f j
  | 0 => rfl
  | k + 1 => by
    unfold mZero
    rw [sS_app, if_neg (fun w => hf w.1)]
    exact mZero_ne d hf j s k
/-- a cell is written -/
def mWrC (s : mS) (f n o : Nat) : mS := sS (sS (sS s 36 0 (s 36 0 + 1)) 37 0 (s 37 0 + 1)) 35 (8 * vN (s 34 f) - 8 + n % 8) (nI o - nI 3)
def mFil (o n b : Nat) : Nat := 4 * b + (if o = 13 then n else n / 8)
/-- what the file server does: order o, number n, of the client b -/
def mFilesG (s : mS) (o n f : Nat) : Int32 × mS := if o = 13 then (if s 34 f = 0 then -1 else 0, sS s 34 f 0)
  else if o = 2 then (if s 34 f = 0 then (0, s) else (s 35 (8 * vN (s 34 f) - 8 + n % 8), sS s 36 0 (s 36 0 + 1)))
  else if ¬ s 34 f = 0 then (0, mWrC s f n o)
  else if mFree s = 0 then (-3, sS s 34 f 0)
  else (0, mWrC (mZero (mFree s) 8 (sS (sS s 34 f (nI (mFree s))) 37 0 (s 37 0 + 1))) f n o)
def mFiles (s : mS) (w : Int32) (b : Nat) : Int32 × mS := if w < 0 ∨ ¬ (2 ≤ vN w / 100 ∧ vN w / 100 ≤ 13) ∨ ¬ vN w % 100 ≤ (if vN w / 100 = 13 then 3 else 31) then (-2, s) else mFilesG s (vN w / 100) (vN w % 100) (mFil (vN w / 100) (vN w % 100) b)
theorem t_fil42 (H : xH) : B_M_files_42 z H = some (.inl (some (.int (-2))), H) := by
  refine E_M_files_42 z H _ ?_
  unfold D_M_files_42
  rw [bc_m2]
theorem t_fil100 (x : Int32) (H : xH) : B_M_files_100 z x H = some (.inl (some (.int x)), H) := E_M_files_100 z x H _ rfl
theorem t_fil164 (x : Int32) (H : xH) : B_M_files_164 z x H = some (.inl (some (.int x)), H) := E_M_files_164 z x H _ rfl
theorem t_fil247 (ok : mOk h m) {d f n o : Nat} (hd : s 34 f = nI d) (hd0 : 0 < d) (hd7 : d < 7) (hf : f < 16) (hn : n < 100) : B_M_files_247 z m (nI o) (nI n) (nI f) (mPut h m s) = some (.inl (some (.int 0)), mPut h m (mWrC s f n o)) := by
  refine E_M_files_247 z m _ _ _ _ _ ?_
  have er : nI n - nI n / nI 8 * nI 8 = nI (n % 8) := pk_rem (by omega) (by decide) (by decide)
  have ei : nI 8 * nI d - nI 8 + nI (n % 8) = nI (8 * d - 8 + n % 8) := by rw [pk_mul, pk_sub (by omega), nI_add]
  have hi : 8 * d - 8 + n % 8 < 50 := by omega
  have e34 : sS (sS s 36 0 (s 36 0 + 1)) 37 0 (s 37 0 + 1) 34 f = nI d := hd
  have e37 : sS s 36 0 (s 36 0 + 1) 37 0 = s 37 0 := rfl
  have vd : vN (nI d) = d := vN_nI (by omega)
  simp only [D_M_files_247, mr_reads ok, mw_reads ok, Option.bind_some, mr_writes ok, mw_writes ok, ic_1, mr_cells ok, mr_block ok, ma_block ok hf, e37, e34, bc_8, er, ei, ic_3, mw_cells ok hi, ic_0]
  unfold mWrC
  rw [hd, vd]
theorem t_fil212 (ok : mOk h m) {d f n o : Nat} {r : xR} (hd : s 34 f = nI d) (hd0 : 0 < d) (hd7 : d < 7) (hf : f < 16) (hend : B_M_files_247 z m (nI o) (nI n) (nI f) (mPut h m (mZero d 8 s)) = some r) : ∀ (j k : Nat), k + j = 8 → B_M_files_212 z m (nI o) (nI n) (nI f) (nI k) (mPut h m (mZero d k s)) = some r
  | 0, k, e => by
    obtain rfl : k = 8 := by omega
    refine E_M_files_212 z m _ _ _ _ _ _ ?_
    unfold D_M_files_212
    rw [bc_8, if_pos (by decide)]
    exact hend
  | j + 1, k, e => by
    have hk : k < 8 := by omega
    have e34 : mZero d k s 34 f = nI d := (mZero_ne d (by decide) f s k).trans hd
    have ei : nI 8 * nI d - nI 8 + nI k = nI (8 * d - 8 + k) := by rw [pk_mul, pk_sub (by omega), nI_add]
    have hi : 8 * d - 8 + k < 50 := by omega
    refine E_M_files_212 z m _ _ _ _ _ _ ?_
    simp only [D_M_files_212, bc_8, mr_cells ok, mr_block ok, ma_block ok hf, e34, Option.bind_some, ei, ic_0, mw_cells ok hi, ic_1n, nI_add]
    rw [if_neg (nI_ge hk (by decide))]
    exact t_fil212 ok hd hd0 hd7 hf hend j (k + 1) (by omega)
theorem t_fil126 (ok : mOk h m) {d f n : Nat} (hd : s 34 f = nI d) (hd7 : d < 7) (hf : f < 16) (hn : n < 100) : B_M_files_126 z m (nI n) (nI f) (mPut h m s) = some (.inl (some (.int (if d = 0 then 0 else s 35 (8 * d - 8 + n % 8)))), mPut h m s) := by
  refine E_M_files_126 z m _ _ _ _ ?_
  have er : nI n - nI n / nI 8 * nI 8 = nI (n % 8) := pk_rem (by omega) (by decide) (by decide)
  simp only [D_M_files_126, mr_block ok, ma_block ok hf, hd, Option.bind_some, bc_8, er, mr_cells ok, t_fil164, ic_0]
  by_cases g : d = 0
  · rw [if_pos (by rw [g]; decide), if_pos g]
  · have ei : nI 8 * nI d - nI 8 + nI (n % 8) = nI (8 * d - 8 + n % 8) := by rw [pk_mul, pk_sub (by omega), nI_add]
    rw [if_neg (nI_nle (by omega) (by omega)), if_neg g, ei, ma_cells ok (by omega)]
    rfl
theorem t_fil64 (ok : mOk h m) (B : mWB s) {o n f : Nat} {x y : Int32} (hxy : y + x = nI f) (hf : f < 16) (ho : o < 14) (hn : n < 100) : B_M_files_64 z m (nI o) (nI n) x y (mPut h m s) = some (.inl (some (.int (mFilesG s o n f).1)), mPut h m (mFilesG s o n f).2) := by
  refine E_M_files_64 z m _ _ _ _ _ _ ?_
  obtain ⟨d, hd7, hd⟩ : ∃ d, d < 7 ∧ s 34 f = nI d := ⟨_, (B f hf).2, (B f hf).1⟩
  have vd : vN (nI d) = d := vN_nI (by omega)
  have z0 : nI d = 0 ↔ d = 0 := nI_e0 (by omega)
  unfold D_M_files_64 mFilesG
  rw [hxy, bc_13, ic_2]
  by_cases g1 : o = 13
  · rw [if_neg (fun w => w (by rw [g1])), if_pos g1]
    simp only [mr_block ok, ma_block ok hf, mw_block ok hf, Option.bind_some, ic_0, ic_m1, hd, t_fil100, z0]
    by_cases g : d = 0
    · rw [if_pos (by rw [g]; decide), if_pos g]
    · rw [if_neg (nI_nle (by omega) (by omega)), if_neg g]
  · rw [if_pos (fun w => g1 ((nI_eq (by omega) (by decide)).mp w)), if_neg g1]
    by_cases g2 : o = 2
    · rw [if_neg (fun w => w (by rw [g2])), if_pos g2]
      simp only [mr_block ok, ma_block ok hf, Option.bind_some, hd, mr_reads ok, mw_reads ok, ic_1, vd, z0]
      by_cases g : d = 0
      · rw [if_pos (by rw [g]; decide), if_pos g, t_fil126 ok hd hd7 hf hn, if_pos g]
      · rw [if_neg (nI_nle (by omega) (by omega)), if_neg g, t_fil126 (s := sS s 36 0 (s 36 0 + 1)) ok hd hd7 hf hn, if_neg g]
        rfl
    · rw [if_pos (fun w => g2 ((nI_eq (by omega) (by decide)).mp w)), if_neg g2]
      simp only [mr_block ok, ma_block ok hf, Option.bind_some, hd, z0]
      by_cases g : d = 0
      · rw [if_neg (fun w => w g), if_neg (fun w => w g)]
        have hfr := mFree_lt s
        have e34 : sS s 34 f (nI (mFree s)) 34 f = nI (mFree s) := sS_same _ _ _ _
        have e37 : sS s 34 f (nI (mFree s)) 37 0 = s 37 0 := rfl
        have f0 : nI (mFree s) = 0 ↔ mFree s = 0 := nI_e0 (by omega)
        simp only [xisO_m ok, t_M_free ok, xclI_some, mw_block ok hf, Option.bind_some, mr_block ok, ma_block ok hf, e34, f0, mr_writes ok, e37, mw_writes ok, ic_1, bc_m3, ic_0n]
        by_cases k : mFree s = 0
        · rw [if_neg (fun w => w k), if_pos k, k]
          rfl
        · rw [if_pos k, if_neg k]
          have e34' : sS (sS s 34 f (nI (mFree s))) 37 0 (s 37 0 + 1) 34 f = nI (mFree s) := e34
          refine t_fil212 (s := sS (sS s 34 f (nI (mFree s))) 37 0 (s 37 0 + 1)) ok e34' (by omega) hfr hf ?_ 8 0 rfl
          exact t_fil247 ok ((mZero_ne _ (by decide) _ _ _).trans e34') (by omega) hfr hf hn
      · rw [if_pos g, if_pos g]
        exact t_fil247 ok hd (by omega) hd7 hf hn
theorem t_M_files (ok : mOk h m) (B : mWB s) {w : Int32} {b : Nat} (hb : b < 4) : f_M_files z [.ref m, .int w, .int (nI b)] (mPut h m s) = some (.inl (some (.int (mFiles s w b).1)), mPut h m (mFiles s w b).2) := by
  refine E_M_files z m _ _ _ _ ?_
  unfold D_M_files_0 mFiles
  by_cases h0 : w < 0
  · rw [if_pos h0, if_pos (Or.inl h0), t_fil42]
  · obtain ⟨j, hj, rfl⟩ := nI_of h0
    have vj : vN (nI j) = j := vN_nI hj
    have ed : nI j / nI 100 = nI (j / 100) := pk_div hj (by decide) (by decide)
    have er : nI j - nI j / nI 100 * nI 100 = nI (j % 100) := pk_rem hj (by decide) (by decide)
    have h100 : j % 100 < 100 := Nat.mod_lt _ (by decide)
    rw [if_neg h0, bc_100, er, ed, vj, ic_2, bc_13, bc_31, ic_3]
    simp only [t_M_within, xclI_some]
    by_cases h1 : 2 ≤ j / 100 ∧ j / 100 ≤ 13
    · have hin : rIn (nI (j / 100)) (nI 2) (nI 13) := by
        rintro (w | w)
        · exact nI_nlt h1.1 (by omega) w
        · exact nI_nlt h1.2 (by decide) w
      rw [if_neg (fun w => ((xif_in _ _ _).mp w) hin)]
      have N : ∀ K : Nat, K < 100 → K = (if j / 100 = 13 then 3 else 31) → B_M_files_39 z m (nI b) (nI (j / 100)) (nI (j % 100)) (nI K) (nI (j % 100)) (mPut h m s) = some (.inl (some (.int (if nI j < 0 ∨ ¬ (2 ≤ j / 100 ∧ j / 100 ≤ 13) ∨ ¬ j % 100 ≤ (if j / 100 = 13 then 3 else 31) then (-2, s) else mFilesG s (j / 100) (j % 100) (mFil (j / 100) (j % 100) b)).1)), mPut h m (if nI j < 0 ∨ ¬ (2 ≤ j / 100 ∧ j / 100 ≤ 13) ∨ ¬ j % 100 ≤ (if j / 100 = 13 then 3 else 31) then (-2, s) else mFilesG s (j / 100) (j % 100) (mFil (j / 100) (j % 100) b)).2) := fun K hK eK => by
        refine E_M_files_39 z m _ _ _ _ _ _ _ ?_
        unfold D_M_files_39
        rw [← eK]
        by_cases h2 : j % 100 ≤ K
        · rw [if_pos (nI_le h2 (by omega)), if_neg (show ¬ (nI j < 0 ∨ ¬ (2 ≤ j / 100 ∧ j / 100 ≤ 13) ∨ ¬ j % 100 ≤ K) by rintro (w | w | w); exact h0 w; exact w h1; exact w h2)]
          have ed8 : nI (j % 100) / nI 8 = nI (j % 100 / 8) := pk_div (by omega) (by decide) (by decide)
          rw [bc_13, bc_8, ed8, ic_4, pk_mul]
          unfold mFil
          by_cases h3 : j / 100 = 13
          · rw [if_neg (fun w => w (by rw [h3])), if_pos h3]
            rw [if_pos h3] at eK
            exact t_fil64 ok B (nI_add _ _) (by omega) (by omega) h100
          · rw [if_pos (fun w => h3 ((nI_eq (by omega) (by decide)).mp w)), if_neg h3]
            rw [if_neg h3] at eK
            exact t_fil64 ok B (nI_add _ _) (by omega) (by omega) h100
        · rw [if_neg (nI_ge (by omega) (by omega)), if_pos (Or.inr (Or.inr h2)), t_fil42]
      by_cases h3 : j / 100 = 13
      · rw [if_neg (fun w => w (by rw [h3]))]
        exact N 3 (by decide) (by rw [if_pos h3])
      · rw [if_pos (fun w => h3 ((nI_eq (by omega) (by decide)).mp w))]
        exact N 31 (by decide) (by rw [if_neg h3])
    · have hin : ¬ rIn (nI (j / 100)) (nI 2) (nI 13) := fun w => h1 (by
        constructor
        · rcases Nat.lt_or_ge (j / 100) 2 with q | q
          · exact absurd (Or.inl (nI_lt q (by decide))) w
          · exact q
        · rcases Nat.lt_or_ge 13 (j / 100) with q | q
          · exact absurd (Or.inr (nI_lt q (by omega))) w
          · exact q)
      rw [if_pos ((xif_in _ _ _).mpr hin), if_pos (Or.inr (Or.inl h1)), t_fil42]
end MV
