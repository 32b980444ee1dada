/-! The class: what the file server does. -/
def kRd (c : mS) (b : Nat) : mS := sS (kFill c b) 36 0 (c 36 0 + 1)
def kWr (c : mS) (b : Nat) : mS := sS (kStore c b) 37 0 (c 37 0 + 1)
def kFd (c : mS) (bd f : Int32) : Nat → Nat → Option Nat
  | 0, _ => none
  | n + 1, b => if ¬ c 73 b = 0 ∧ c 74 b = bd ∧ c 75 b = f then some b else kFd c bd f n (b + 1)
def kFe (c : mS) : Nat → Nat → Option Nat
  | 0, _ => none
  | n + 1, b => if c 73 b = 0 then some b else kFe c n (b + 1)
def kClr (c : mS) (n : Nat) : mS := fun f i => if f = 76 ∧ i < n then 0 else c f i
def kNewF (c : mS) (b : Nat) (bd f : Int32) : mS := kWr (kClr (sS (sS (sS c 73 b 1) 74 b bd) 75 b f) 8) b
section KT
variable {z : xzs} {W : kW} {h : xH} {c : mS}
theorem t_D_fits (ok : kOk W h) {b : Nat} (hb : b < 6) : f_D_fits z [.ref (kg W 0 5), .int (nI b), .ref (kg W 0 10)] (kPut W h c) = some (.inl (some (.int 1)), kPut W h c) := by
  refine E_D_fits z _ _ (some (kg W 0 10)) _ _ ?_
  unfold D_D_fits_0
  rw [if_neg (nI_pos (by omega)), bc_6, if_neg (nI_ge hb (by decide)), Option.bind_some, kl_buffer ok, Option.bind_some, bc_8, if_neg (fun w => w rfl)]
  refine E_D_fits_22 z _ _ _ ?_
  unfold D_D_fits_22
  rw [ic_1, if_pos (Or.inr rfl)]
theorem e8b {b : Nat} : nI b * nI 8 = nI (8 * b) := by
  rw [pk_mul, Nat.mul_comm]
theorem t_D_readBlock (ok : kOk W h) {b : Nat} (hb : b < 6) : f_D_readBlock z [.ref (kg W 0 5), .int (nI b), .ref (kg W 0 10)] (kPut W h c) = some (.inl none, kPut W h (kRd c b)) := by
  refine E_D_readBlock z _ _ (some (kg W 0 10)) _ _ ?_
  unfold D_D_readBlock_0
  rw [kisD ok, Option.bind_some]
  show xclI (f_D_fits z [.ref (kg W 0 5), .int (nI b), .ref (kg W 0 10)] (kPut W h c)) _ = _
  rw [t_D_fits ok hb, xclI_some, if_neg (by decide), kr_disk ok, Option.bind_some, Option.bind_some, Option.bind_some, bc_8, e8b, ic_0n, k_fill ok hb, Option.bind_some, kr_blocksRead ok, Option.bind_some, ic_1, kw_blocksRead ok, Option.bind_some]
  exact E_D_readBlock_34 z _ _ rfl
theorem t_D_writeBlock (ok : kOk W h) {b : Nat} (hb : b < 6) : f_D_writeBlock z [.ref (kg W 0 5), .int (nI b), .ref (kg W 0 10)] (kPut W h c) = some (.inl none, kPut W h (kWr c b)) := by
  refine E_D_writeBlock z _ _ (some (kg W 0 10)) _ _ ?_
  unfold D_D_writeBlock_0
  rw [kisD ok, Option.bind_some]
  show xclI (f_D_fits z [.ref (kg W 0 5), .int (nI b), .ref (kg W 0 10)] (kPut W h c)) _ = _
  rw [t_D_fits ok hb, xclI_some, if_neg (by decide), kr_disk ok, Option.bind_some, Option.bind_some, Option.bind_some, bc_8, e8b, ic_0n, k_store ok hb, Option.bind_some, kr_blocksWritten ok, Option.bind_some, ic_1, kw_blocksWritten ok, Option.bind_some]
  exact E_D_writeBlock_34 z _ _ rfl
theorem t_blk (ok : kOk W h) (bd f : Int32) : ∀ (n b : Nat), b + n = 6 → B_F_blockOf_2 z (kg W 0 4) bd f (nI b) (kPut W h c) = some (.inl (some (.int (xpl (kFd c bd f n b)))), kPut W h c)
  | 0, b, hb => by
    refine E_F_blockOf_2 z _ _ _ _ _ _ ?_
    unfold D_F_blockOf_2
    rw [bc_6, if_pos (nI_le (by omega) (by omega)), ic_m1]
    rfl
  | n + 1, b, hb => by
    refine E_F_blockOf_2 z _ _ _ _ _ _ ?_
    have hb6 : b < 6 := by omega
    have e39 : B_F_blockOf_39 z (kg W 0 4) bd f (nI b) (kPut W h c) = some (.inl (some (.int (xpl (kFd c bd f n (b + 1))))), kPut W h c) := by
      refine E_F_blockOf_39 z _ _ _ _ _ _ ?_
      unfold D_F_blockOf_39
      rw [ic_1, nI_1]
      exact t_blk ok bd f n (b + 1) (by omega)
    unfold D_F_blockOf_2 kFd
    rw [bc_6, if_neg (nI_ge hb6 (by decide)), kr_takenA ok, Option.bind_some, Option.bind_some, ka_taken ok hb6, Option.bind_some]
    by_cases k1 : c 73 b = 0
    · rw [if_pos k1, if_neg (fun w => w.1 k1), e39]
    · rw [if_neg k1, kr_ownersA ok, Option.bind_some, Option.bind_some, ka_owners ok hb6, Option.bind_some]
      by_cases k2 : c 74 b = bd
      · rw [if_neg (fun w => w k2), kr_filesA ok, Option.bind_some, Option.bind_some, ka_files ok hb6, Option.bind_some]
        by_cases k3 : c 75 b = f
        · rw [if_neg (fun w => w k3), if_pos ⟨k1, k2, k3⟩]
          rfl
        · rw [if_pos k3, if_neg (fun w => k3 w.2.2), e39]
      · rw [if_pos k2, if_neg (fun w => k2 w.2.1), e39]
theorem t_F_blockOf (ok : kOk W h) (bd f : Int32) : f_F_blockOf z [.ref (kg W 0 4), .int bd, .int f] (kPut W h c) = some (.inl (some (.int (xpl (kFd c bd f 6 0)))), kPut W h c) := by
  refine E_F_blockOf z _ _ _ _ _ ?_
  unfold D_F_blockOf_0
  rw [ic_0n]
  exact t_blk ok bd f 6 0 rfl
theorem kFd_lt {bd f : Int32} : ∀ (n b q : Nat), kFd c bd f n b = some q → b ≤ q ∧ q < b + n
  | 0, b, q, e => by cases e
  | n + 1, b, q, e => by
    unfold kFd at e
    split at e
    · cases e; omega
    · have := kFd_lt n (b + 1) q e
      omega
theorem kFe_lt : ∀ (n b q : Nat), kFe c n b = some q → b ≤ q ∧ q < b + n
  | 0, b, q, e => by cases e
  | n + 1, b, q, e => by
    unfold kFe at e
    split at e
    · cases e; omega
    · have := kFe_lt n (b + 1) q e
      omega
theorem kClr_s (c : mS) (k : Nat) : sS (kClr c k) 76 k 0 = kClr c (k + 1) := by
  funext f i
  show (if f = 76 ∧ i = k then 0 else if f = 76 ∧ i < k then 0 else c f i) = if f = 76 ∧ i < k + 1 then 0 else c f i
  by_cases e : f = 76
  · by_cases e1 : i = k
    · rw [if_pos ⟨e, e1⟩, if_pos ⟨e, by omega⟩]
    · rw [if_neg (fun w => e1 w.2)]
      by_cases e2 : i < k
      · rw [if_pos ⟨e, e2⟩, if_pos ⟨e, by omega⟩]
      · rw [if_neg (fun w => e2 w.2), if_neg (by omega)]
  · rw [if_neg (fun w => e w.1), if_neg (fun w => e w.1), if_neg (fun w => e w.1)]
theorem t_clr (ok : kOk W h) : ∀ (n k : Nat), k + n = 8 → B_F_clearBuffer_2 z (kg W 0 4) (nI k) (kPut W h (kClr c k)) = some (.inl none, kPut W h (kClr c 8))
  | 0, k, hk => by
    refine E_F_clearBuffer_2 z _ _ _ _ ?_
    unfold D_F_clearBuffer_2
    rw [kr_bufferA ok, Option.bind_some, Option.bind_some, kl_buffer ok, Option.bind_some, if_pos (show Int32.ofNat 8 ≤ nI k from nI_le (by omega) (by omega)), show k = 8 by omega]
  | n + 1, k, hk => by
    refine E_F_clearBuffer_2 z _ _ _ _ ?_
    unfold D_F_clearBuffer_2
    rw [kr_bufferA ok, Option.bind_some, Option.bind_some, kl_buffer ok, Option.bind_some, if_neg (show ¬ Int32.ofNat 8 ≤ nI k from nI_ge (by omega) (by decide)), Option.bind_some, Option.bind_some, ic_0, kw_buffer ok (by omega), Option.bind_some, ic_1, nI_1, kClr_s]
    exact t_clr ok n (k + 1) (by omega)
theorem kClr_0 (c : mS) : kClr c 0 = c := by
  funext f i
  exact if_neg (by omega)
theorem t_F_clearBuffer (ok : kOk W h) : f_F_clearBuffer z [.ref (kg W 0 4)] (kPut W h c) = some (.inl none, kPut W h (kClr c 8)) := by
  refine E_F_clearBuffer z _ _ _ ?_
  unfold D_F_clearBuffer_0
  have := t_clr (z := z) (c := c) ok 8 0 rfl
  rw [kClr_0] at this
  exact this
theorem t_nwf (ok : kOk W h) (bd f : Int32) : ∀ (n b : Nat), b + n = 6 → B_F_newFile_2 z (kg W 0 4) bd f (nI b) (kPut W h c) = some (.inl (some (.int (xpl (kFe c n b)))), kPut W h (match kFe c n b with | none => c | some q => kNewF c q bd f))
  | 0, b, hb => by
    refine E_F_newFile_2 z _ _ _ _ _ _ ?_
    unfold D_F_newFile_2
    rw [bc_6, if_pos (nI_le (by omega) (by omega)), ic_m1]
    rfl
  | n + 1, b, hb => by
    refine E_F_newFile_2 z _ _ _ _ _ _ ?_
    have hb6 : b < 6 := by omega
    unfold D_F_newFile_2 kFe
    rw [bc_6, if_neg (nI_ge hb6 (by decide)), kr_takenA ok, Option.bind_some, Option.bind_some, ka_taken ok hb6, Option.bind_some]
    by_cases k1 : c 73 b = 0
    · rw [if_neg (fun w => w k1), if_pos k1, Option.bind_some, Option.bind_some, ic_1, kw_taken ok hb6, Option.bind_some, nar_b1, kr_ownersA ok, Option.bind_some, Option.bind_some, kw_owners ok hb6, Option.bind_some, kr_filesA ok, Option.bind_some, Option.bind_some, kw_files ok hb6, Option.bind_some, kisF ok, Option.bind_some, t_F_clearBuffer ok, xclV_some, kr_driver ok, Option.bind_some, kr_bufferA ok, Option.bind_some, Option.bind_some, kisD ok, Option.bind_some]
      show xclV (f_D_writeBlock z [.ref (kg W 0 5), .int (nI b), .ref (kg W 0 10)] _) _ = _
      rw [t_D_writeBlock ok hb6, xclV_some]
      rfl
    · rw [if_pos k1, if_neg k1, ic_1, nI_1]
      exact t_nwf ok bd f n (b + 1) (by omega)
theorem t_F_newFile (ok : kOk W h) (bd f : Int32) : f_F_newFile z [.ref (kg W 0 4), .int bd, .int f] (kPut W h c) = some (.inl (some (.int (xpl (kFe c 6 0)))), kPut W h (match kFe c 6 0 with | none => c | some q => kNewF c q bd f)) := by
  refine E_F_newFile z _ _ _ _ _ ?_
  unfold D_F_newFile_0
  rw [ic_0n]
  exact t_nwf ok bd f 6 0 rfl
def kReadC (c : mS) (bd f : Int32) (i : Nat) : Int32 × mS := match kFd c bd f 6 0 with
  | none => (0, c)
  | some b => (c 35 (8 * b + i), kRd c b)
theorem t_F_readCell (ok : kOk W h) (bd f : Int32) {i : Nat} (hi : i < 8) : f_F_readCell z [.ref (kg W 0 4), .int bd, .int f, .int (nI i)] (kPut W h c) = some (.inl (some (.int (kReadC c bd f i).1)), kPut W h (kReadC c bd f i).2) := by
  refine E_F_readCell z _ _ _ _ _ _ ?_
  unfold D_F_readCell_0 kReadC
  rw [kisF ok, Option.bind_some, t_F_blockOf ok, xclI_some]
  cases e : kFd c bd f 6 0 with
  | none =>
    rw [if_pos (show xpl none < 0 by decide)]
    refine E_F_readCell_26 z _ _ ?_
    unfold D_F_readCell_26
    rw [ic_0]
  | some b =>
    have hb : b < 6 := by have := kFd_lt 6 0 b e; omega
    show (if nI b < 0 then _ else _) = _
    rw [if_neg (nI_pos (by omega)), if_neg (nI_pos (by omega)), kr_bufferA ok, Option.bind_some, Option.bind_some, kl_buffer ok, Option.bind_some, if_pos (show nI i < Int32.ofNat 8 from nI_lt hi (by decide)), kr_driver ok, Option.bind_some, Option.bind_some, Option.bind_some, kisD ok, Option.bind_some]
    show xclV (f_D_readBlock z [.ref (kg W 0 5), .int (nI b), .ref (kg W 0 10)] _) _ = _
    rw [t_D_readBlock ok hb, xclV_some, kr_bufferA ok, Option.bind_some, Option.bind_some, ka_buffer ok hi, Option.bind_some]
    have ev : kRd c b 76 i = c 35 (8 * b + i) := by
      show va_cpy (c 35) (c 76) (8 * b) 0 8 i = _
      rw [pk_cpy_in (Nat.zero_le _) (by omega), Nat.sub_zero]
    rw [ev]
def kWrC (c : mS) (b i : Nat) (v : Int32) : mS := kWr (sS (kRd c b) 76 i v) b
def kWriteC (c : mS) (bd f : Int32) (i : Nat) (v : Int32) : Int32 × mS := match kFd c bd f 6 0 with
  | some b => (0, kWrC c b i v)
  | none => match kFe c 6 0 with
    | none => (-3, c)
    | some b => (0, kWrC (kNewF c b bd f) b i v)
theorem t_wc21 (ok : kOk W h) {b i : Nat} (hb : b < 6) (hi : i < 8) (v : Int32) : B_F_writeCell_21 z (kg W 0 4) (nI i) v (nI b) (kPut W h c) = some (.inl (some (.int 0)), kPut W h (kWrC c b i v)) := by
  refine E_F_writeCell_21 z _ _ _ _ _ _ ?_
  unfold D_F_writeCell_21
  rw [if_neg (nI_pos (by omega)), if_neg (nI_pos (by omega)), kr_bufferA ok, Option.bind_some, Option.bind_some, kl_buffer ok, Option.bind_some, if_pos (show nI i < Int32.ofNat 8 from nI_lt hi (by decide)), kr_driver ok, Option.bind_some, Option.bind_some, Option.bind_some, kisD ok, Option.bind_some]
  show xclV (f_D_readBlock z [.ref (kg W 0 5), .int (nI b), .ref (kg W 0 10)] _) _ = _
  rw [t_D_readBlock ok hb, xclV_some, kr_bufferA ok, Option.bind_some, Option.bind_some, kw_buffer ok hi, Option.bind_some, kr_driver ok, Option.bind_some, kr_bufferA ok, Option.bind_some, Option.bind_some, kisD ok, Option.bind_some]
  show xclV (f_D_writeBlock z [.ref (kg W 0 5), .int (nI b), .ref (kg W 0 10)] _) _ = _
  rw [t_D_writeBlock ok hb, xclV_some, ic_0]
  rfl
theorem t_F_writeCell (ok : kOk W h) (bd f : Int32) {i : Nat} (hi : i < 8) (v : Int32) : f_F_writeCell z [.ref (kg W 0 4), .int bd, .int f, .int (nI i), .int v] (kPut W h c) = some (.inl (some (.int (kWriteC c bd f i v).1)), kPut W h (kWriteC c bd f i v).2) := by
  refine E_F_writeCell z _ _ _ _ _ _ _ ?_
  unfold D_F_writeCell_0 kWriteC
  rw [kisF ok, Option.bind_some, t_F_blockOf ok, xclI_some]
  cases e : kFd c bd f 6 0 with
  | some b =>
    have hb : b < 6 := by have := kFd_lt 6 0 b e; omega
    show (if 0 ≤ nI b then _ else _) = _
    rw [if_pos (nI_pos' (by omega))]
    exact t_wc21 ok hb hi v
  | none =>
    rw [if_neg (show ¬ 0 ≤ xpl none by decide), kisF ok, Option.bind_some, t_F_newFile ok, xclI_some]
    cases e2 : kFe c 6 0 with
    | none =>
      refine E_F_writeCell_21 z _ _ _ _ _ _ ?_
      unfold D_F_writeCell_21
      rw [if_pos (show xpl none < 0 by decide)]
      refine E_F_writeCell_39 z _ _ ?_
      unfold D_F_writeCell_39
      rw [bc_m3]
    | some b =>
      have hb : b < 6 := by have := kFe_lt 6 0 b e2; omega
      exact t_wc21 ok hb hi v
def kRemF (c : mS) (bd f : Int32) : Int32 × mS := match kFd c bd f 6 0 with
  | some b => (0, sS c 73 b 0)
  | none => (-1, c)
theorem t_F_removeFile (ok : kOk W h) (bd f : Int32) : f_F_removeFile z [.ref (kg W 0 4), .int bd, .int f] (kPut W h c) = some (.inl (some (.int (kRemF c bd f).1)), kPut W h (kRemF c bd f).2) := by
  refine E_F_removeFile z _ _ _ _ _ ?_
  unfold D_F_removeFile_0 kRemF
  rw [kisF ok, Option.bind_some, t_F_blockOf ok, xclI_some]
  cases e : kFd c bd f 6 0 with
  | none =>
    rw [if_pos (show xpl none < 0 by decide)]
    refine E_F_removeFile_20 z _ _ ?_
    unfold D_F_removeFile_20
    rw [ic_m1]
  | some b =>
    have hb : b < 6 := by have := kFd_lt 6 0 b e; omega
    show (if nI b < 0 then _ else _) = _
    rw [if_neg (nI_pos (by omega)), kr_takenA ok, Option.bind_some, Option.bind_some, kl_taken ok, Option.bind_some]
    show (if nI b < Int32.ofNat 6 then _ else _) = _
    rw [if_pos (show nI b < Int32.ofNat 6 from nI_lt hb (by decide)), Option.bind_some, Option.bind_some, ic_0]
    show (wrZ (kPut W h c) (kg W 0 7) (nI b) 0).bind _ = _
    rw [kw_taken ok hb, Option.bind_some, nar_b0]
theorem t_hmf (ok : kOk W h) : ∀ (n b k : Nat), b + n = 6 → B_F_howManyFree_4 z (kg W 0 4) (nI k) (nI b) (kPut W h c) = some (.inl (some (.int (nI (k + ((List.range' b n).filter (fun i => c 73 i = 0)).length)))), kPut W h c)
  | 0, b, k, hb => by
    refine E_F_howManyFree_4 z _ _ _ _ _ ?_
    unfold D_F_howManyFree_4
    rw [bc_6, if_pos (nI_le (by omega) (by omega))]
    rfl
  | n + 1, b, k, hb => by
    refine E_F_howManyFree_4 z _ _ _ _ _ ?_
    have hb6 : b < 6 := by omega
    have e22 : ∀ k', B_F_howManyFree_22 z (kg W 0 4) (nI k') (nI b) (kPut W h c) = some (.inl (some (.int (nI (k' + ((List.range' (b + 1) n).filter (fun i => c 73 i = 0)).length)))), kPut W h c) := by
      intro k'
      refine E_F_howManyFree_22 z _ _ _ _ _ ?_
      unfold D_F_howManyFree_22
      rw [ic_1, nI_1]
      exact t_hmf ok n (b + 1) k' (by omega)
    unfold D_F_howManyFree_4
    rw [bc_6, if_neg (nI_ge hb6 (by decide)), kr_takenA ok, Option.bind_some, Option.bind_some, ka_taken ok hb6, Option.bind_some, List.range'_succ, List.filter_cons]
    by_cases k1 : c 73 b = 0
    · rw [if_neg (fun w => w k1), ic_1, nI_1, e22, if_pos (by simp only [k1, decide_true]), List.length_cons, show k + 1 + ((List.range' (b + 1) n).filter (fun i => c 73 i = 0)).length = k + (((List.range' (b + 1) n).filter (fun i => c 73 i = 0)).length + 1) by omega]
    · rw [if_pos k1, e22, if_neg (by simp only [decide_eq_true_eq]; exact k1)]
def kFree (c : mS) : Nat := ((List.range' 0 6).filter (fun i => c 73 i = 0)).length
theorem t_F_howManyFree (ok : kOk W h) : f_F_howManyFree z [.ref (kg W 0 4)] (kPut W h c) = some (.inl (some (.int (nI (kFree c)))), kPut W h c) := by
  refine E_F_howManyFree z _ _ _ ?_
  unfold D_F_howManyFree_0
  rw [ic_0n]
  have := t_hmf (z := z) (c := c) ok 6 0 0 rfl
  rw [Nat.zero_add] at this
  exact this
-- serve
def kServe (c : mS) (bd w : Int32) : Int32 × mS := if w < 0 then (-2, c) else if vN w / 100 = 2 ∧ vN w % 100 < 32 then kReadC c bd (nI (vN w % 100 / 8)) (vN w % 100 % 8)
  else if 3 ≤ vN w / 100 ∧ vN w / 100 ≤ 12 ∧ vN w % 100 < 32 then kWriteC c bd (nI (vN w % 100 / 8)) (vN w % 100 % 8) (nI (vN w / 100) - nI 3)
  else if vN w / 100 = 13 ∧ vN w % 100 < 4 then kRemF c bd (nI (vN w % 100)) else (-2, c)
theorem bc_32k : (Int8.ofInt 32).toInt32 = nI 32 := by decide
theorem bc_100k : (Int8.ofInt 100).toInt32 = nI 100 := by decide
theorem bc_12k : (Int8.ofInt 12).toInt32 = nI 12 := by decide
theorem bc_13k : (Int8.ofInt 13).toInt32 = nI 13 := by decide
theorem t_srv117 (H : xH) : B_F_serve_117 z H = some (.inl (some (.int (-2))), H) := by
  refine E_F_serve_117 z _ _ ?_
  unfold D_F_serve_117
  rw [bc_m2]
theorem t_srv97 (ok : kOk W h) (bd : Int32) {o n : Nat} (ho : o < 2 ^ 31) (hn : n < 100) : B_F_serve_97 z (kg W 0 4) bd (nI o) (nI n) (kPut W h c) = some (.inl (some (.int (if o = 13 ∧ n < 4 then kRemF c bd (nI n) else (-2, c)).1)), kPut W h (if o = 13 ∧ n < 4 then kRemF c bd (nI n) else (-2, c)).2) := by
  refine E_F_serve_97 z _ _ _ _ _ _ ?_
  unfold D_F_serve_97
  rw [bc_13k, ic_4]
  by_cases k1 : o = 13
  · rw [if_neg (fun w => w (by rw [k1]))]
    by_cases k2 : n < 4
    · rw [if_neg (nI_ge k2 (by decide)), if_pos ⟨k1, k2⟩, kisF ok, Option.bind_some, t_F_removeFile ok, xclI_some]
    · rw [if_pos (nI_le (by omega) (by omega)), if_neg (fun w => k2 w.2), t_srv117]
  · rw [if_pos (fun w => k1 ((nI_eq ho (by decide)).mp w)), if_neg (fun w => k1 w.1), t_srv117]
theorem t_srv58 (ok : kOk W h) (bd : Int32) {o n : Nat} {x : Int32} (ho : o < 2 ^ 31) (hn : n < 100) (hx : if n < 32 then x = 1 else x = 0) : B_F_serve_58 z (kg W 0 4) bd (nI o) (nI n) x (kPut W h c) = some (.inl (some (.int (if 3 ≤ o ∧ o ≤ 12 ∧ n < 32 then kWriteC c bd (nI (n / 8)) (n % 8) (nI o - nI 3) else if o = 13 ∧ n < 4 then kRemF c bd (nI n) else (-2, c)).1)), kPut W h (if 3 ≤ o ∧ o ≤ 12 ∧ n < 32 then kWriteC c bd (nI (n / 8)) (n % 8) (nI o - nI 3) else if o = 13 ∧ n < 4 then kRemF c bd (nI n) else (-2, c)).2) := by
  refine E_F_serve_58 z _ _ _ _ _ _ _ ?_
  unfold D_F_serve_58
  rw [ic_3, bc_12k]
  by_cases k1 : o < 3
  · rw [if_pos (nI_lt k1 (by decide)), if_neg (fun w => by omega)]
    exact t_srv97 ok bd ho hn
  · rw [if_neg (nI_nlt (by omega) ho)]
    by_cases k2 : 12 < o
    · rw [if_pos (nI_lt k2 ho), if_neg (fun w => by omega)]
      exact t_srv97 ok bd ho hn
    · rw [if_neg (nI_nlt (by omega) (by decide))]
      by_cases k3 : n < 32
      · rw [if_pos k3] at hx
        rw [hx, if_neg (by decide), if_pos ⟨by omega, by omega, k3⟩, kisF ok, Option.bind_some, bc_8, pk_rem (by omega) (by decide) (by decide), pk_div (by omega) (by decide) (by decide), t_F_writeCell ok _ _ (Nat.mod_lt _ (by decide)), xclI_some]
      · rw [if_neg k3] at hx
        rw [hx, if_pos rfl, if_neg (fun w => k3 w.2.2)]
        exact t_srv97 ok bd ho hn
theorem t_F_serve (ok : kOk W h) (bd w : Int32) : f_F_serve z [.ref (kg W 0 4), .int bd, .int w] (kPut W h c) = some (.inl (some (.int (kServe c bd w).1)), kPut W h (kServe c bd w).2) := by
  refine E_F_serve z _ _ _ _ _ ?_
  unfold D_F_serve_0 kServe
  by_cases k0 : w < 0
  · rw [if_neg (k2_nle k0), if_pos k0, bc_m2]
  · rw [if_pos (k2_le k0), if_neg k0]
    obtain ⟨m, hm, e⟩ := nI_of k0
    subst e
    rw [vN_nI hm, bc_100k, bc_32k, pk_rem hm (by decide) (by decide), pk_div hm (by decide) (by decide)]
    have hn : m % 100 < 100 := Nat.mod_lt _ (by decide)
    have ho : m / 100 < 2 ^ 31 := by omega
    have e30 : ∀ x : Int32, (if m % 100 < 32 then x = 1 else x = 0) → B_F_serve_30 z (kg W 0 4) bd (nI (m / 100)) (nI (m % 100)) x (kPut W h c) = some (.inl (some (.int (if m / 100 = 2 ∧ m % 100 < 32 then kReadC c bd (nI (m % 100 / 8)) (m % 100 % 8) else if 3 ≤ m / 100 ∧ m / 100 ≤ 12 ∧ m % 100 < 32 then kWriteC c bd (nI (m % 100 / 8)) (m % 100 % 8) (nI (m / 100) - nI 3) else if m / 100 = 13 ∧ m % 100 < 4 then kRemF c bd (nI (m % 100)) else (-2, c)).1)), kPut W h (if m / 100 = 2 ∧ m % 100 < 32 then kReadC c bd (nI (m % 100 / 8)) (m % 100 % 8) else if 3 ≤ m / 100 ∧ m / 100 ≤ 12 ∧ m % 100 < 32 then kWriteC c bd (nI (m % 100 / 8)) (m % 100 % 8) (nI (m / 100) - nI 3) else if m / 100 = 13 ∧ m % 100 < 4 then kRemF c bd (nI (m % 100)) else (-2, c)).2) := by
      intro x hx
      refine E_F_serve_30 z _ _ _ _ _ _ _ ?_
      unfold D_F_serve_30
      rw [ic_2]
      by_cases k1 : m / 100 = 2
      · rw [if_neg (fun w => w (by rw [k1]))]
        by_cases k2 : m % 100 < 32
        · have hx2 := hx
          rw [if_pos k2] at hx2
          rw [hx2, if_neg (by decide), if_pos ⟨k1, k2⟩, kisF ok, Option.bind_some, bc_8, pk_rem (by omega) (by decide) (by decide), pk_div (by omega) (by decide) (by decide), t_F_readCell ok _ _ (Nat.mod_lt _ (by decide)), xclI_some]
        · have hx2 := hx
          rw [if_neg k2] at hx2
          rw [if_pos hx2, if_neg (fun w => k2 w.2)]
          exact t_srv58 ok bd ho hn hx
      · rw [if_pos (fun w => k1 ((nI_eq ho (by decide)).mp w)), if_neg (fun w => k1 w.1)]
        exact t_srv58 ok bd ho hn hx
    by_cases k2 : m % 100 < 32
    · rw [if_neg (nI_ge k2 (by decide)), ic_1]
      exact e30 1 (by rw [if_pos k2])
    · rw [if_pos (nI_le (by omega) (by omega)), ic_0]
      exact e30 0 (by rw [if_neg k2])
end KT
