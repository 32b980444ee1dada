/-! The class: the file server and the driver. -/
section KS
variable {z : xzs} {W : kW} {h : xH} {c : mS}
theorem ke_35 {c' : mS} (hc : ∀ f, f ≠ 35 → c' f = c f) : ∀ d, d ≠ (0, 6) → kCell W c' d = kCell W c d := by
  intro d hd
  obtain ⟨f, i⟩ := d
  unfold kCell
  split
  · rename_i hq
    have hi : i ≠ 6 := fun w => hd (by rw [w, show f = 0 from hq])
    unfold kc0; split <;> first | (rename_i w; exact absurd w hi) | simp only [hc 69 (by decide), hc 68 (by decide), hc 31 (by decide), hc 71 (by decide), hc 72 (by decide), hc 70 (by decide), hc 36 (by decide), hc 37 (by decide), hc 73 (by decide), hc 74 (by decide), hc 75 (by decide), hc 76 (by decide)]
  · simp only [kc1, hc 8 (by decide), hc 9 (by decide), hc 10 (by decide), hc 11 (by decide), hc 12 (by decide), hc 64 (by decide), hc 65 (by decide)]
  · simp only [kc2, hc 15 (by decide), hc 16 (by decide), hc 17 (by decide), hc 18 (by decide), hc 19 (by decide), hc 20 (by decide), hc 21 (by decide), hc 23 (by decide), hc 24 (by decide), hc 25 (by decide), hc 26 (by decide), hc 27 (by decide), hc 28 (by decide), hc 29 (by decide), hc 30 (by decide), hc 52 (by decide), hc 56 (by decide)]
  · simp only [kc5, hc 1 (by decide), hc 2 (by decide), hc 3 (by decide), hc 4 (by decide), hc 5 (by decide), hc 6 (by decide), hc 61 (by decide), hc 62 (by decide)]
  · simp only [kc6, hc 1 (by decide), hc 14 (by decide)]
  · rfl
theorem ke_73 {c' : mS} (hc : ∀ f, f ≠ 73 → c' f = c f) : ∀ d, d ≠ (0, 7) → kCell W c' d = kCell W c d := by
  intro d hd
  obtain ⟨f, i⟩ := d
  unfold kCell
  split
  · rename_i hq
    have hi : i ≠ 7 := fun w => hd (by rw [w, show f = 0 from hq])
    unfold kc0; split <;> first | (rename_i w; exact absurd w hi) | simp only [hc 69 (by decide), hc 68 (by decide), hc 31 (by decide), hc 71 (by decide), hc 72 (by decide), hc 70 (by decide), hc 36 (by decide), hc 37 (by decide), hc 35 (by decide), hc 74 (by decide), hc 75 (by decide), hc 76 (by decide)]
  · simp only [kc1, hc 8 (by decide), hc 9 (by decide), hc 10 (by decide), hc 11 (by decide), hc 12 (by decide), hc 64 (by decide), hc 65 (by decide)]
  · simp only [kc2, hc 15 (by decide), hc 16 (by decide), hc 17 (by decide), hc 18 (by decide), hc 19 (by decide), hc 20 (by decide), hc 21 (by decide), hc 23 (by decide), hc 24 (by decide), hc 25 (by decide), hc 26 (by decide), hc 27 (by decide), hc 28 (by decide), hc 29 (by decide), hc 30 (by decide), hc 52 (by decide), hc 56 (by decide)]
  · simp only [kc5, hc 1 (by decide), hc 2 (by decide), hc 3 (by decide), hc 4 (by decide), hc 5 (by decide), hc 6 (by decide), hc 61 (by decide), hc 62 (by decide)]
  · simp only [kc6, hc 1 (by decide), hc 14 (by decide)]
  · rfl
theorem ke_74 {c' : mS} (hc : ∀ f, f ≠ 74 → c' f = c f) : ∀ d, d ≠ (0, 8) → kCell W c' d = kCell W c d := by
  intro d hd
  obtain ⟨f, i⟩ := d
  unfold kCell
  split
  · rename_i hq
    have hi : i ≠ 8 := fun w => hd (by rw [w, show f = 0 from hq])
    unfold kc0; split <;> first | (rename_i w; exact absurd w hi) | simp only [hc 69 (by decide), hc 68 (by decide), hc 31 (by decide), hc 71 (by decide), hc 72 (by decide), hc 70 (by decide), hc 36 (by decide), hc 37 (by decide), hc 35 (by decide), hc 73 (by decide), hc 75 (by decide), hc 76 (by decide)]
  · simp only [kc1, hc 8 (by decide), hc 9 (by decide), hc 10 (by decide), hc 11 (by decide), hc 12 (by decide), hc 64 (by decide), hc 65 (by decide)]
  · simp only [kc2, hc 15 (by decide), hc 16 (by decide), hc 17 (by decide), hc 18 (by decide), hc 19 (by decide), hc 20 (by decide), hc 21 (by decide), hc 23 (by decide), hc 24 (by decide), hc 25 (by decide), hc 26 (by decide), hc 27 (by decide), hc 28 (by decide), hc 29 (by decide), hc 30 (by decide), hc 52 (by decide), hc 56 (by decide)]
  · simp only [kc5, hc 1 (by decide), hc 2 (by decide), hc 3 (by decide), hc 4 (by decide), hc 5 (by decide), hc 6 (by decide), hc 61 (by decide), hc 62 (by decide)]
  · simp only [kc6, hc 1 (by decide), hc 14 (by decide)]
  · rfl
theorem ke_75 {c' : mS} (hc : ∀ f, f ≠ 75 → c' f = c f) : ∀ d, d ≠ (0, 9) → kCell W c' d = kCell W c d := by
  intro d hd
  obtain ⟨f, i⟩ := d
  unfold kCell
  split
  · rename_i hq
    have hi : i ≠ 9 := fun w => hd (by rw [w, show f = 0 from hq])
    unfold kc0; split <;> first | (rename_i w; exact absurd w hi) | simp only [hc 69 (by decide), hc 68 (by decide), hc 31 (by decide), hc 71 (by decide), hc 72 (by decide), hc 70 (by decide), hc 36 (by decide), hc 37 (by decide), hc 35 (by decide), hc 73 (by decide), hc 74 (by decide), hc 76 (by decide)]
  · simp only [kc1, hc 8 (by decide), hc 9 (by decide), hc 10 (by decide), hc 11 (by decide), hc 12 (by decide), hc 64 (by decide), hc 65 (by decide)]
  · simp only [kc2, hc 15 (by decide), hc 16 (by decide), hc 17 (by decide), hc 18 (by decide), hc 19 (by decide), hc 20 (by decide), hc 21 (by decide), hc 23 (by decide), hc 24 (by decide), hc 25 (by decide), hc 26 (by decide), hc 27 (by decide), hc 28 (by decide), hc 29 (by decide), hc 30 (by decide), hc 52 (by decide), hc 56 (by decide)]
  · simp only [kc5, hc 1 (by decide), hc 2 (by decide), hc 3 (by decide), hc 4 (by decide), hc 5 (by decide), hc 6 (by decide), hc 61 (by decide), hc 62 (by decide)]
  · simp only [kc6, hc 1 (by decide), hc 14 (by decide)]
  · rfl
theorem ke_76 {c' : mS} (hc : ∀ f, f ≠ 76 → c' f = c f) : ∀ d, kDom W d.1 d.2 → d ≠ (0, 10) → kCell W c' d = kCell W c d := by
  intro d D hd
  obtain ⟨f, i⟩ := d
  dsimp only at D
  unfold kCell
  split
  · rename_i hq
    have hq : f = 0 := hq
    subst hq
    have hi : i < 10 := by
      have : i ≠ 10 := fun w => hd (by rw [w])
      rcases D with ⟨_, q⟩ | ⟨e, _⟩ | ⟨e, _⟩ | ⟨e, _⟩ | ⟨e, _⟩ <;> omega
    show kc0 W c' i = kc0 W c i
    match i, hi with
    | 0, _ => simp only [kc0, hc 69 (by decide), hc 68 (by decide), hc 31 (by decide), hc 71 (by decide), hc 72 (by decide), hc 70 (by decide), hc 36 (by decide), hc 37 (by decide), hc 35 (by decide), hc 73 (by decide), hc 74 (by decide), hc 75 (by decide)]
    | 1, _ => simp only [kc0, hc 69 (by decide), hc 68 (by decide), hc 31 (by decide), hc 71 (by decide), hc 72 (by decide), hc 70 (by decide), hc 36 (by decide), hc 37 (by decide), hc 35 (by decide), hc 73 (by decide), hc 74 (by decide), hc 75 (by decide)]
    | 2, _ => simp only [kc0, hc 69 (by decide), hc 68 (by decide), hc 31 (by decide), hc 71 (by decide), hc 72 (by decide), hc 70 (by decide), hc 36 (by decide), hc 37 (by decide), hc 35 (by decide), hc 73 (by decide), hc 74 (by decide), hc 75 (by decide)]
    | 3, _ => simp only [kc0, hc 69 (by decide), hc 68 (by decide), hc 31 (by decide), hc 71 (by decide), hc 72 (by decide), hc 70 (by decide), hc 36 (by decide), hc 37 (by decide), hc 35 (by decide), hc 73 (by decide), hc 74 (by decide), hc 75 (by decide)]
    | 4, _ => simp only [kc0, hc 69 (by decide), hc 68 (by decide), hc 31 (by decide), hc 71 (by decide), hc 72 (by decide), hc 70 (by decide), hc 36 (by decide), hc 37 (by decide), hc 35 (by decide), hc 73 (by decide), hc 74 (by decide), hc 75 (by decide)]
    | 5, _ => simp only [kc0, hc 69 (by decide), hc 68 (by decide), hc 31 (by decide), hc 71 (by decide), hc 72 (by decide), hc 70 (by decide), hc 36 (by decide), hc 37 (by decide), hc 35 (by decide), hc 73 (by decide), hc 74 (by decide), hc 75 (by decide)]
    | 6, _ => simp only [kc0, hc 69 (by decide), hc 68 (by decide), hc 31 (by decide), hc 71 (by decide), hc 72 (by decide), hc 70 (by decide), hc 36 (by decide), hc 37 (by decide), hc 35 (by decide), hc 73 (by decide), hc 74 (by decide), hc 75 (by decide)]
    | 7, _ => simp only [kc0, hc 69 (by decide), hc 68 (by decide), hc 31 (by decide), hc 71 (by decide), hc 72 (by decide), hc 70 (by decide), hc 36 (by decide), hc 37 (by decide), hc 35 (by decide), hc 73 (by decide), hc 74 (by decide), hc 75 (by decide)]
    | 8, _ => simp only [kc0, hc 69 (by decide), hc 68 (by decide), hc 31 (by decide), hc 71 (by decide), hc 72 (by decide), hc 70 (by decide), hc 36 (by decide), hc 37 (by decide), hc 35 (by decide), hc 73 (by decide), hc 74 (by decide), hc 75 (by decide)]
    | 9, _ => simp only [kc0, hc 69 (by decide), hc 68 (by decide), hc 31 (by decide), hc 71 (by decide), hc 72 (by decide), hc 70 (by decide), hc 36 (by decide), hc 37 (by decide), hc 35 (by decide), hc 73 (by decide), hc 74 (by decide), hc 75 (by decide)]
  · simp only [kc1, hc 8 (by decide), hc 9 (by decide), hc 10 (by decide), hc 11 (by decide), hc 12 (by decide), hc 64 (by decide), hc 65 (by decide)]
  · simp only [kc2, hc 15 (by decide), hc 16 (by decide), hc 17 (by decide), hc 18 (by decide), hc 19 (by decide), hc 20 (by decide), hc 21 (by decide), hc 23 (by decide), hc 24 (by decide), hc 25 (by decide), hc 26 (by decide), hc 27 (by decide), hc 28 (by decide), hc 29 (by decide), hc 30 (by decide), hc 52 (by decide), hc 56 (by decide)]
  · simp only [kc5, hc 1 (by decide), hc 2 (by decide), hc 3 (by decide), hc 4 (by decide), hc 5 (by decide), hc 6 (by decide), hc 61 (by decide), hc 62 (by decide)]
  · simp only [kc6, hc 1 (by decide), hc 14 (by decide)]
  · rfl
theorem kPut_setD {c' : mS} {f j : Nat} (ok : kOk W h) (D : kDom W f j) (hs : ∀ d, kDom W d.1 d.2 → d ≠ (f, j) → kCell W c' d = kCell W c d) : xset (kPut W h c) (kg W f j) (kCell W c' (f, j)) = kPut W h c' := by
  refine xH_ext rfl rfl fun a => ?_
  rw [xat_set (xat_kPut ok D), xat_k, xat_k]
  by_cases q : a = kg W f j
  · obtain ⟨h1, h2, h3⟩ := ok.1 _ _ D
    obtain ⟨x, ex⟩ := xat_in h2 h3
    rw [if_pos q, q, ex, h1, Option.map_some, Option.elim_some]
  · rw [if_neg q]
    cases e0 : xat h a with
    | none => rw [Option.map_none, Option.map_none]
    | some x =>
      rw [Option.map_some, Option.map_some]
      cases e1 : kA W a with
      | none => rw [Option.elim_none, Option.elim_none]
      | some d =>
        obtain ⟨r1, r2⟩ := ok.2 _ _ e1
        rw [Option.elim_some, Option.elim_some, hs d r1 (fun w => q (by rw [← r2, w]))]
theorem ka_taken (ok : kOk W h) {b : Nat} (hb : b < 6) : rdA 1 (kPut W h c) (kg W 0 7) (nI b) = some (c 73 b) := rdA_of (xat_kPut ok (kDom0 (j := 7) (by decide))) hb (by decide)
theorem kw_taken (ok : kOk W h) {b : Nat} (hb : b < 6) (v : Int32) : wrZ (kPut W h c) (kg W 0 7) (nI b) v = some (kPut W h (sS c 73 b (vp_nar .boolean v))) := by
  rw [wrZ_of (n := 6) (f := c 73) (xat_kPut ok (kDom0 (j := 7) (by decide))) hb (by decide), show (Sum.inl (1, 6, .inl (upd (c 73) b (vp_nar .boolean v))) : va_E) = kCell W (sS c 73 b (vp_nar .boolean v)) (0, 7) from ?_, kPut_set ok (kDom0 (by decide)) (ke_73 (fun f hf => sS_fn hf))]
  show _ = (Sum.inl (1, 6, .inl (sS c 73 b (vp_nar .boolean v) 73)) : va_E)
  congr 4
  funext u
  show (if u = b then _ else _) = if 73 = 73 ∧ u = b then _ else _
  by_cases w : u = b
  · rw [if_pos w, if_pos ⟨rfl, w⟩]
  · rw [if_neg w, if_neg (fun y => w y.2)]
theorem ka_owners (ok : kOk W h) {b : Nat} (hb : b < 6) : rdA 0 (kPut W h c) (kg W 0 8) (nI b) = some (c 74 b) := rdA_of (xat_kPut ok (kDom0 (j := 8) (by decide))) hb (by decide)
theorem kw_owners (ok : kOk W h) {b : Nat} (hb : b < 6) (v : Int32) : wrI (kPut W h c) (kg W 0 8) (nI b) v = some (kPut W h (sS c 74 b v)) := by
  rw [wrI_of (n := 6) (f := c 74) (xat_kPut ok (kDom0 (j := 8) (by decide))) hb (by decide), show (Sum.inl (0, 6, .inl (upd (c 74) b v)) : va_E) = kCell W (sS c 74 b v) (0, 8) from ?_, kPut_set ok (kDom0 (by decide)) (ke_74 (fun f hf => sS_fn hf))]
  show _ = (Sum.inl (0, 6, .inl (sS c 74 b v 74)) : va_E)
  congr 4
  funext u
  show (if u = b then _ else _) = if 74 = 74 ∧ u = b then _ else _
  by_cases w : u = b
  · rw [if_pos w, if_pos ⟨rfl, w⟩]
  · rw [if_neg w, if_neg (fun y => w y.2)]
theorem ka_files (ok : kOk W h) {b : Nat} (hb : b < 6) : rdA 0 (kPut W h c) (kg W 0 9) (nI b) = some (c 75 b) := rdA_of (xat_kPut ok (kDom0 (j := 9) (by decide))) hb (by decide)
theorem kw_files (ok : kOk W h) {b : Nat} (hb : b < 6) (v : Int32) : wrI (kPut W h c) (kg W 0 9) (nI b) v = some (kPut W h (sS c 75 b v)) := by
  rw [wrI_of (n := 6) (f := c 75) (xat_kPut ok (kDom0 (j := 9) (by decide))) hb (by decide), show (Sum.inl (0, 6, .inl (upd (c 75) b v)) : va_E) = kCell W (sS c 75 b v) (0, 9) from ?_, kPut_set ok (kDom0 (by decide)) (ke_75 (fun f hf => sS_fn hf))]
  show _ = (Sum.inl (0, 6, .inl (sS c 75 b v 75)) : va_E)
  congr 4
  funext u
  show (if u = b then _ else _) = if 75 = 75 ∧ u = b then _ else _
  by_cases w : u = b
  · rw [if_pos w, if_pos ⟨rfl, w⟩]
  · rw [if_neg w, if_neg (fun y => w y.2)]
theorem ka_buffer (ok : kOk W h) {b : Nat} (hb : b < 8) : rdA 0 (kPut W h c) (kg W 0 10) (nI b) = some (c 76 b) := rdA_of (xat_kPut ok (kDom0 (j := 10) (by decide))) hb (by decide)
theorem kl_buffer (ok : kOk W h) : xalen (kPut W h c) (kg W 0 10) = some 8 := xalenI_of (f := c 76) (kd := 0) (xat_kPut ok (kDom0 (j := 10) (by decide))) rfl
theorem kl_taken (ok : kOk W h) : xalen (kPut W h c) (kg W 0 7) = some 6 := xalenI_of (f := c 73) (kd := 1) (xat_kPut ok (kDom0 (j := 7) (by decide))) rfl
theorem kw_buffer (ok : kOk W h) {b : Nat} (hb : b < 8) (v : Int32) : wrI (kPut W h c) (kg W 0 10) (nI b) v = some (kPut W h (sS c 76 b v)) := by
  rw [wrI_of (n := 8) (f := c 76) (xat_kPut ok (kDom0 (j := 10) (by decide))) hb (by decide), show (Sum.inl (0, 8, .inl (upd (c 76) b v)) : va_E) = kCell W (sS c 76 b v) (0, 10) from ?_, kPut_setD ok (kDom0 (by decide)) (ke_76 (fun f hf => sS_fn hf))]
  show _ = (Sum.inl (0, 8, .inl (sS c 76 b v 76)) : va_E)
  congr 4
  funext u
  show (if u = b then _ else _) = if 76 = 76 ∧ u = b then _ else _
  by_cases w : u = b
  · rw [if_pos w, if_pos ⟨rfl, w⟩]
  · rw [if_neg w, if_neg (fun y => w y.2)]
def kFill (c : mS) (b : Nat) : mS := fun f i => if f = 76 then va_cpy (c 35) (c 76) (8 * b) 0 8 i else c f i
def kStore (c : mS) (b : Nat) : mS := fun f i => if f = 35 then va_cpy (c 76) (c 35) 0 (8 * b) 8 i else c f i
theorem xcpy_of {H : xH} {a d n m : Nat} {f g : Nat → Int32} {sp dp k : Nat} (ha : xat H a = some (.inl (0, n, .inl f))) (hd : xat H d = some (.inl (0, m, .inl g))) (h1 : sp + k ≤ n) (h2 : dp + k ≤ m) (hn : n < 2 ^ 31) (hm : m < 2 ^ 31) : xcpy H a (nI sp) d (nI dp) (nI k) = some (xset H d (.inl (0, m, .inl (va_cpy f g sp dp k)))) := by
  unfold xcpy
  rw [ha, hd]
  simp only [Option.bind_some, xai_same, nI_clamp (show sp < 2 ^ 31 by omega), nI_clamp (show dp < 2 ^ 31 by omega), nI_clamp (show k < 2 ^ 31 by omega)]
  rw [if_pos ⟨nI_pos (by omega), nI_pos (by omega), nI_pos (by omega), h1, h2⟩]
theorem k_fill (ok : kOk W h) {b : Nat} (hb : b < 6) : xcpy (kPut W h c) (kg W 0 6) (nI (8 * b)) (kg W 0 10) (nI 0) (nI 8) = some (kPut W h (kFill c b)) := by
  rw [xcpy_of (n := 48) (f := c 35) (m := 8) (g := c 76) (xat_kPut ok (kDom0 (j := 6) (by decide))) (xat_kPut ok (kDom0 (j := 10) (by decide))) (by omega) (by omega) (by decide) (by decide)]
  have := kPut_setD (c := c) (c' := kFill c b) ok (kDom0 (W := W) (j := 10) (by decide)) (ke_76 (fun f hf => by funext i; exact if_neg hf))
  rw [← this]
  rfl
theorem k_store (ok : kOk W h) {b : Nat} (hb : b < 6) : xcpy (kPut W h c) (kg W 0 10) (nI 0) (kg W 0 6) (nI (8 * b)) (nI 8) = some (kPut W h (kStore c b)) := by
  rw [xcpy_of (n := 8) (f := c 76) (m := 48) (g := c 35) (xat_kPut ok (kDom0 (j := 10) (by decide))) (xat_kPut ok (kDom0 (j := 6) (by decide))) (by omega) (by omega) (by decide) (by decide)]
  have := kPut_set (c := c) (c' := kStore c b) ok (kDom0 (W := W) (j := 6) (by decide)) (ke_35 (fun f hf => by funext i; exact if_neg hf))
  rw [← this]
  rfl
end KS
