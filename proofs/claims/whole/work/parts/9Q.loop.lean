/-! THE LAW'S LOOP. -/
section LL
variable {z : xzs} {p : Program} {l : Launch} {e : Env} {s : State} {m : MethodId} {below : List Frame} {meth : Method} {c : Code} {Q : State → Prop} {D : va_G} {dA : Nat → ClassId} {b Ls x M o : Nat} {xs : Nat → Int32}
theorem nI_ofI (a k : Nat) : nI a + Int32.ofInt (k : Int) = nI (a + k) := by
  have : Int32.ofInt (k : Int) = nI k := rfl
  rw [this, nI_add]
theorem l_top {L j : Nat} (hL : L ≤ 2560) (hj : j ≤ 600) : Int32.ofNat L - 5 < nI (5 * j) ↔ L < 5 * j + 5 := by
  rw [Int32.lt_iff_toInt_lt, Int32.toInt_sub, show (nI (5 * j)).toInt = ((5 * j : Nat) : Int) from Int32.toInt_ofNat_of_lt (by omega), Int32.toInt_ofNat_of_lt (by omega), show (5 : Int32).toInt = 5 by decide, Int.bmod_eq_of_le (by omega) (by omega)]
  omega
theorem l_code (v : Int32) : ∃ k, k < 32 ∧ v &&& Int8.toInt32 (Int8.ofInt 31) = nI k := by
  refine ⟨v.toBitVec.toNat % 2 ^ 5, Nat.mod_lt _ (by decide), ?_⟩
  rw [← pk_and v (m := nI 31) 5 (by decide)]
  rfl
theorem l_sw : ∃ len, decode code 39 = .ok (.tableswitch 1199 0 17 #[85, 165, 257, 325, 381, 437, 517, 597, 665, 733, 789, 845, 901, 945, 1013, 1026, 1094, 1174], len) := by
  obtain ⟨len, h, -⟩ := (lcd (pc := 39) (i := .tableswitch 1199 0 17 #[85, 165, 257, 325, 381, 437, 517, 597, 665, 733, 789, 845, 901, 945, 1013, 1026, 1094, 1174]) (by decide +kernel)).1
  exact ⟨len, h⟩
theorem tl_1238 : tl 1238 = some (.iinc 4 5) ∧ tl 1241 = some (.goto (-1218)) ∧ tl 23 = some (.iload 4) ∧ tl 25 = some (.aload_n 0) ∧ tl 26 = some .arraylength ∧ tl 27 = some (.iconst 5) ∧ tl 28 = some .isub ∧ tl 29 = some (.if_icmp .gt 1215) ∧ tl 32 = some (.aload_n 0) ∧ tl 33 = some (.iload 4) ∧ tl 35 = some .iaload ∧ tl 36 = some (.bipush 31) ∧ tl 38 = some .iand := by
  unfold tl
  decide +kernel
/-- what an arm of the switch does -/
def lArm (z : xzs) (p : Program) (l : Launch) (e : Env) (s : State) (m : MethodId) (below : List Frame) (meth : Method) (c : Code) (Q : State → Prop) (D : va_G) (dA : Nat → ClassId) (b x M o P j : Nat) : Prop := ∀ (h : xH) (ls : Array Slot) (H : Heap) (locs : List Loc), lInv z x M o j h → h.1 = s.heap.size → xlv ls 7 (lL b x M o (nI (5 * j))) → xAt D dA s locs h H →
  (∀ h2 ls' H' locs', lInv z x M o (j + 1) h2 → h2.1 = s.heap.size → xlv ls' 7 (lL b x M o (nI (5 * j))) → xAt D dA s locs' h2 H' → W p l e room_1 s m #[Value.ref b] below meth c H' locs' (xn h2 - s.heap.size) h2.2.1 Q (F0 m 1238 ls' [])) → W p l e room_1 s m #[Value.ref b] below meth c H locs (xn h - s.heap.size) h.2.1 Q (F0 m P ls [])
theorem l_in {j n : Nat} (h5 : 5 * j + 5 ≤ Ls) (hL : Ls ≤ 2560) (hn : n ≤ 4) : ∀ i, i < n → vp_in (nI (5 * j) + Int32.ofInt ((1 + i : Nat) : Int)) Ls := by
  intro i hi
  rw [nI_ofI]
  exact vp_in_nI (by omega) (by omega)
theorem l_bd {h : xH} {j : Nat} (I : lInv z x M o j h) (hj : j ≤ 600) (hb : h.1 = s.heap.size) : xn h - s.heap.size ≤ 601024 ∧ h.2.1 ≤ 7293033 := by
  obtain ⟨W, K, c, s', n, -, -, -, -, -, -, -, -, -, -, -, -, -, i14, i15⟩ := I
  exact ⟨by omega, by omega⟩
theorem la_copy {j : Nat} (hl0 : l.stackTraces = false) (F : lFix z p s m c D dA b Ls xs) (h5 : 5 * j + 5 ≤ Ls) (hL : Ls ≤ 2560) : lArm z p l e s m below meth c Q D dA b x M o 124 j := by
  intro h ls H locs I hb hl hA kk
  obtain ⟨r, r', k, v, h2, f, fs, fs1, fs2, a1, a2, a3, a4, a5, a6, a7, a8, a9, a10, I2, hb2⟩ := l_step (fC := f_K_copy z) (fM := f_M_copy z) (as := lAs xs (nI (5 * j)) 3) I (by omega) (fun W K c s n J ok hz hC hK => sim_copy J ok hz hC hK (lV xs (nI (5 * j)) 1) (lV xs (nI (5 * j)) 2) (lV xs (nI (5 * j)) 3))
  have bd := l_bd (s := s) I2 (by omega) (hb2.trans hb)
  exact l_arm F ao_copy (l_in h5 hL (by decide)) (cg_copy z l hl0 xs _) (mg_m_copy z l hl0) rfl (mg_m_thrown z l hl0) a1 a2 a3 a4 a5 a6 a7 a8 a9 a10 hb bd.1 bd.2 hl hA (fun ls' H' locs' hl' hA' => kk h2 ls' H' locs' I2 (hb2.trans hb) hl' hA')
theorem la_mint {j : Nat} (hl0 : l.stackTraces = false) (F : lFix z p s m c D dA b Ls xs) (h5 : 5 * j + 5 ≤ Ls) (hL : Ls ≤ 2560) : lArm z p l e s m below meth c Q D dA b x M o 204 j := by
  intro h ls H locs I hb hl hA kk
  obtain ⟨r, r', k, v, h2, f, fs, fs1, fs2, a1, a2, a3, a4, a5, a6, a7, a8, a9, a10, I2, hb2⟩ := l_step (fC := f_K_mint z) (fM := f_M_mint z) (as := lAs xs (nI (5 * j)) 4) I (by omega) (fun W K c s n J ok hz hC hK => sim_mint J ok hz hC hK (lV xs (nI (5 * j)) 1) (lV xs (nI (5 * j)) 2) (lV xs (nI (5 * j)) 3) (lV xs (nI (5 * j)) 4))
  have bd := l_bd (s := s) I2 (by omega) (hb2.trans hb)
  exact l_arm F ao_mint (l_in h5 hL (by decide)) (cg_mint z l hl0 xs _) (mg_m_mint z l hl0) rfl (mg_m_thrown z l hl0) a1 a2 a3 a4 a5 a6 a7 a8 a9 a10 hb bd.1 bd.2 hl hA (fun ls' H' locs' hl' hA' => kk h2 ls' H' locs' I2 (hb2.trans hb) hl' hA')
theorem la_move {j : Nat} (hl0 : l.stackTraces = false) (F : lFix z p s m c D dA b Ls xs) (h5 : 5 * j + 5 ≤ Ls) (hL : Ls ≤ 2560) : lArm z p l e s m below meth c Q D dA b x M o 296 j := by
  intro h ls H locs I hb hl hA kk
  obtain ⟨r, r', k, v, h2, f, fs, fs1, fs2, a1, a2, a3, a4, a5, a6, a7, a8, a9, a10, I2, hb2⟩ := l_step (fC := f_K_move z) (fM := f_M_move z) (as := lAs xs (nI (5 * j)) 2) I (by omega) (fun W K c s n J ok hz hC hK => sim_move J ok hz hC hK (lV xs (nI (5 * j)) 1) (lV xs (nI (5 * j)) 2))
  have bd := l_bd (s := s) I2 (by omega) (hb2.trans hb)
  exact l_arm F ao_move (l_in h5 hL (by decide)) (cg_move z l hl0 xs _) (mg_m_move z l hl0) rfl (mg_m_thrown z l hl0) a1 a2 a3 a4 a5 a6 a7 a8 a9 a10 hb bd.1 bd.2 hl hA (fun ls' H' locs' hl' hA' => kk h2 ls' H' locs' I2 (hb2.trans hb) hl' hA')
theorem la_delete {j : Nat} (hl0 : l.stackTraces = false) (F : lFix z p s m c D dA b Ls xs) (h5 : 5 * j + 5 ≤ Ls) (hL : Ls ≤ 2560) : lArm z p l e s m below meth c Q D dA b x M o 364 j := by
  intro h ls H locs I hb hl hA kk
  obtain ⟨r, r', k, v, h2, f, fs, fs1, fs2, a1, a2, a3, a4, a5, a6, a7, a8, a9, a10, I2, hb2⟩ := l_step (fC := f_K_delete z) (fM := f_M_delete z) (as := lAs xs (nI (5 * j)) 1) I (by omega) (fun W K c s n J ok hz hC hK => sim_delete J ok hz hC hK (lV xs (nI (5 * j)) 1))
  have bd := l_bd (s := s) I2 (by omega) (hb2.trans hb)
  exact l_arm F ao_delete (l_in h5 hL (by decide)) (cg_delete z l hl0 xs _) (mg_m_delete z l hl0) rfl (mg_m_thrown z l hl0) a1 a2 a3 a4 a5 a6 a7 a8 a9 a10 hb bd.1 bd.2 hl hA (fun ls' H' locs' hl' hA' => kk h2 ls' H' locs' I2 (hb2.trans hb) hl' hA')
theorem la_revoke {j : Nat} (hl0 : l.stackTraces = false) (F : lFix z p s m c D dA b Ls xs) (h5 : 5 * j + 5 ≤ Ls) (hL : Ls ≤ 2560) : lArm z p l e s m below meth c Q D dA b x M o 420 j := by
  intro h ls H locs I hb hl hA kk
  obtain ⟨r, r', k, v, h2, f, fs, fs1, fs2, a1, a2, a3, a4, a5, a6, a7, a8, a9, a10, I2, hb2⟩ := l_step (fC := f_K_revoke z) (fM := f_M_revoke z) (as := lAs xs (nI (5 * j)) 1) I (by omega) (fun W K c s n J ok hz hC hK => sim_revoke J ok hz hC hK (lV xs (nI (5 * j)) 1))
  have bd := l_bd (s := s) I2 (by omega) (hb2.trans hb)
  exact l_arm F ao_revoke (l_in h5 hL (by decide)) (cg_revoke z l hl0 xs _) (mg_m_revoke z l hl0) rfl (mg_m_thrown z l hl0) a1 a2 a3 a4 a5 a6 a7 a8 a9 a10 hb bd.1 bd.2 hl hA (fun ls' H' locs' hl' hA' => kk h2 ls' H' locs' I2 (hb2.trans hb) hl' hA')
theorem la_retype {j : Nat} (hl0 : l.stackTraces = false) (F : lFix z p s m c D dA b Ls xs) (h5 : 5 * j + 5 ≤ Ls) (hL : Ls ≤ 2560) : lArm z p l e s m below meth c Q D dA b x M o 476 j := by
  intro h ls H locs I hb hl hA kk
  obtain ⟨r, r', k, v, h2, f, fs, fs1, fs2, a1, a2, a3, a4, a5, a6, a7, a8, a9, a10, I2, hb2⟩ := l_step (fC := f_K_retype z) (fM := f_M_retype z) (as := lAs xs (nI (5 * j)) 3) I (by omega) (fun W K c s n J ok hz hC hK => sim_retype J ok hz hC hK (lV xs (nI (5 * j)) 1) (lV xs (nI (5 * j)) 2) (lV xs (nI (5 * j)) 3))
  have bd := l_bd (s := s) I2 (by omega) (hb2.trans hb)
  exact l_arm F ao_retype (l_in h5 hL (by decide)) (cg_retype z l hl0 xs _) (mg_m_retype z l hl0) rfl (mg_m_thrown z l hl0) a1 a2 a3 a4 a5 a6 a7 a8 a9 a10 hb bd.1 bd.2 hl hA (fun ls' H' locs' hl' hA' => kk h2 ls' H' locs' I2 (hb2.trans hb) hl' hA')
theorem la_send {j : Nat} (hl0 : l.stackTraces = false) (F : lFix z p s m c D dA b Ls xs) (h5 : 5 * j + 5 ≤ Ls) (hL : Ls ≤ 2560) : lArm z p l e s m below meth c Q D dA b x M o 556 j := by
  intro h ls H locs I hb hl hA kk
  obtain ⟨r, r', k, v, h2, f, fs, fs1, fs2, a1, a2, a3, a4, a5, a6, a7, a8, a9, a10, I2, hb2⟩ := l_step (fC := f_K_send z) (fM := f_M_send z) (as := lAs xs (nI (5 * j)) 3) I (by omega) (fun W K c s n J ok hz hC hK => sim_send J ok hz hC hK (lV xs (nI (5 * j)) 1) (lV xs (nI (5 * j)) 2) (lV xs (nI (5 * j)) 3))
  have bd := l_bd (s := s) I2 (by omega) (hb2.trans hb)
  exact l_arm F ao_send (l_in h5 hL (by decide)) (cg_send z l hl0 xs _) (mg_m_send z l hl0) rfl (mg_m_thrown z l hl0) a1 a2 a3 a4 a5 a6 a7 a8 a9 a10 hb bd.1 bd.2 hl hA (fun ls' H' locs' hl' hA' => kk h2 ls' H' locs' I2 (hb2.trans hb) hl' hA')
theorem la_call {j : Nat} (hl0 : l.stackTraces = false) (F : lFix z p s m c D dA b Ls xs) (h5 : 5 * j + 5 ≤ Ls) (hL : Ls ≤ 2560) : lArm z p l e s m below meth c Q D dA b x M o 636 j := by
  intro h ls H locs I hb hl hA kk
  obtain ⟨r, r', k, v, h2, f, fs, fs1, fs2, a1, a2, a3, a4, a5, a6, a7, a8, a9, a10, I2, hb2⟩ := l_step (fC := f_K_call z) (fM := f_M_call z) (as := lAs xs (nI (5 * j)) 2) I (by omega) (fun W K c s n J ok hz hC hK => sim_call J ok hz hC hK (lV xs (nI (5 * j)) 1) (lV xs (nI (5 * j)) 2))
  have bd := l_bd (s := s) I2 (by omega) (hb2.trans hb)
  exact l_arm F ao_call (l_in h5 hL (by decide)) (cg_call z l hl0 xs _) (mg_m_call z l hl0) rfl (mg_m_thrown z l hl0) a1 a2 a3 a4 a5 a6 a7 a8 a9 a10 hb bd.1 bd.2 hl hA (fun ls' H' locs' hl' hA' => kk h2 ls' H' locs' I2 (hb2.trans hb) hl' hA')
theorem la_receive {j : Nat} (hl0 : l.stackTraces = false) (F : lFix z p s m c D dA b Ls xs) (h5 : 5 * j + 5 ≤ Ls) (hL : Ls ≤ 2560) : lArm z p l e s m below meth c Q D dA b x M o 704 j := by
  intro h ls H locs I hb hl hA kk
  obtain ⟨r, r', k, v, h2, f, fs, fs1, fs2, a1, a2, a3, a4, a5, a6, a7, a8, a9, a10, I2, hb2⟩ := l_step (fC := f_K_receive z) (fM := f_M_receive z) (as := lAs xs (nI (5 * j)) 2) I (by omega) (fun W K c s n J ok hz hC hK => sim_receive J ok hz hC hK (lV xs (nI (5 * j)) 1) (lV xs (nI (5 * j)) 2))
  have bd := l_bd (s := s) I2 (by omega) (hb2.trans hb)
  exact l_arm F ao_receive (l_in h5 hL (by decide)) (cg_receive z l hl0 xs _) (mg_m_receive z l hl0) rfl (mg_m_thrown z l hl0) a1 a2 a3 a4 a5 a6 a7 a8 a9 a10 hb bd.1 bd.2 hl hA (fun ls' H' locs' hl' hA' => kk h2 ls' H' locs' I2 (hb2.trans hb) hl' hA')
theorem la_answer {j : Nat} (hl0 : l.stackTraces = false) (F : lFix z p s m c D dA b Ls xs) (h5 : 5 * j + 5 ≤ Ls) (hL : Ls ≤ 2560) : lArm z p l e s m below meth c Q D dA b x M o 772 j := by
  intro h ls H locs I hb hl hA kk
  obtain ⟨r, r', k, v, h2, f, fs, fs1, fs2, a1, a2, a3, a4, a5, a6, a7, a8, a9, a10, I2, hb2⟩ := l_step (fC := f_K_answer z) (fM := f_M_answer z) (as := lAs xs (nI (5 * j)) 1) I (by omega) (fun W K c s n J ok hz hC hK => sim_answer J ok hz hC hK (lV xs (nI (5 * j)) 1))
  have bd := l_bd (s := s) I2 (by omega) (hb2.trans hb)
  exact l_arm F ao_answer (l_in h5 hL (by decide)) (cg_answer z l hl0 xs _) (mg_m_answer z l hl0) rfl (mg_m_thrown z l hl0) a1 a2 a3 a4 a5 a6 a7 a8 a9 a10 hb bd.1 bd.2 hl hA (fun ls' H' locs' hl' hA' => kk h2 ls' H' locs' I2 (hb2.trans hb) hl' hA')
theorem la_signal {j : Nat} (hl0 : l.stackTraces = false) (F : lFix z p s m c D dA b Ls xs) (h5 : 5 * j + 5 ≤ Ls) (hL : Ls ≤ 2560) : lArm z p l e s m below meth c Q D dA b x M o 828 j := by
  intro h ls H locs I hb hl hA kk
  obtain ⟨r, r', k, v, h2, f, fs, fs1, fs2, a1, a2, a3, a4, a5, a6, a7, a8, a9, a10, I2, hb2⟩ := l_step (fC := f_K_signal z) (fM := f_M_signal z) (as := lAs xs (nI (5 * j)) 1) I (by omega) (fun W K c s n J ok hz hC hK => sim_signal J ok hz hC hK (lV xs (nI (5 * j)) 1))
  have bd := l_bd (s := s) I2 (by omega) (hb2.trans hb)
  exact l_arm F ao_signal (l_in h5 hL (by decide)) (cg_signal z l hl0 xs _) (mg_m_signal z l hl0) rfl (mg_m_thrown z l hl0) a1 a2 a3 a4 a5 a6 a7 a8 a9 a10 hb bd.1 bd.2 hl hA (fun ls' H' locs' hl' hA' => kk h2 ls' H' locs' I2 (hb2.trans hb) hl' hA')
theorem la_await {j : Nat} (hl0 : l.stackTraces = false) (F : lFix z p s m c D dA b Ls xs) (h5 : 5 * j + 5 ≤ Ls) (hL : Ls ≤ 2560) : lArm z p l e s m below meth c Q D dA b x M o 884 j := by
  intro h ls H locs I hb hl hA kk
  obtain ⟨r, r', k, v, h2, f, fs, fs1, fs2, a1, a2, a3, a4, a5, a6, a7, a8, a9, a10, I2, hb2⟩ := l_step (fC := f_K_await z) (fM := f_M_await z) (as := lAs xs (nI (5 * j)) 1) I (by omega) (fun W K c s n J ok hz hC hK => sim_await J ok hz hC hK (lV xs (nI (5 * j)) 1))
  have bd := l_bd (s := s) I2 (by omega) (hb2.trans hb)
  exact l_arm F ao_await (l_in h5 hL (by decide)) (cg_await z l hl0 xs _) (mg_m_await z l hl0) rfl (mg_m_thrown z l hl0) a1 a2 a3 a4 a5 a6 a7 a8 a9 a10 hb bd.1 bd.2 hl hA (fun ls' H' locs' hl' hA' => kk h2 ls' H' locs' I2 (hb2.trans hb) hl' hA')
theorem la_pass {j : Nat} (hl0 : l.stackTraces = false) (F : lFix z p s m c D dA b Ls xs) (h5 : 5 * j + 5 ≤ Ls) (hL : Ls ≤ 2560) : lArm z p l e s m below meth c Q D dA b x M o 940 j := by
  intro h ls H locs I hb hl hA kk
  obtain ⟨r, r', k, v, h2, f, fs, fs1, fs2, a1, a2, a3, a4, a5, a6, a7, a8, a9, a10, I2, hb2⟩ := l_step (fC := f_K_pass z) (fM := f_M_pass z) (as := lAs xs (nI (5 * j)) 0) I (by omega) (fun W K c s n J ok hz hC hK => sim_pass J ok hz hC hK)
  have bd := l_bd (s := s) I2 (by omega) (hb2.trans hb)
  exact l_arm F ao_pass (l_in h5 hL (by decide)) (cg_pass z l hl0 xs _) (mg_m_pass z l hl0) rfl (mg_m_thrown z l hl0) a1 a2 a3 a4 a5 a6 a7 a8 a9 a10 hb bd.1 bd.2 hl hA (fun ls' H' locs' hl' hA' => kk h2 ls' H' locs' I2 (hb2.trans hb) hl' hA')
theorem la_priority {j : Nat} (hl0 : l.stackTraces = false) (F : lFix z p s m c D dA b Ls xs) (h5 : 5 * j + 5 ≤ Ls) (hL : Ls ≤ 2560) : lArm z p l e s m below meth c Q D dA b x M o 984 j := by
  intro h ls H locs I hb hl hA kk
  obtain ⟨r, r', k, v, h2, f, fs, fs1, fs2, a1, a2, a3, a4, a5, a6, a7, a8, a9, a10, I2, hb2⟩ := l_step (fC := f_K_priority z) (fM := f_M_priority z) (as := lAs xs (nI (5 * j)) 2) I (by omega) (fun W K c s n J ok hz hC hK => sim_priority J ok hz hC hK (lV xs (nI (5 * j)) 1) (lV xs (nI (5 * j)) 2))
  have bd := l_bd (s := s) I2 (by omega) (hb2.trans hb)
  exact l_arm F ao_priority (l_in h5 hL (by decide)) (cg_priority z l hl0 xs _) (mg_m_priority z l hl0) rfl (mg_m_thrown z l hl0) a1 a2 a3 a4 a5 a6 a7 a8 a9 a10 hb bd.1 bd.2 hl hA (fun ls' H' locs' hl' hA' => kk h2 ls' H' locs' I2 (hb2.trans hb) hl' hA')
theorem la_thread {j : Nat} (hl0 : l.stackTraces = false) (F : lFix z p s m c D dA b Ls xs) (h5 : 5 * j + 5 ≤ Ls) (hL : Ls ≤ 2560) : lArm z p l e s m below meth c Q D dA b x M o 1065 j := by
  intro h ls H locs I hb hl hA kk
  obtain ⟨r, r', k, v, h2, f, fs, fs1, fs2, a1, a2, a3, a4, a5, a6, a7, a8, a9, a10, I2, hb2⟩ := l_step (fC := f_K_thread z) (fM := f_M_thread z) (as := lAs xs (nI (5 * j)) 2) I (by omega) (fun W K c s n J ok hz hC hK => sim_thread J ok hz hC hK (lV xs (nI (5 * j)) 1) (lV xs (nI (5 * j)) 2))
  have bd := l_bd (s := s) I2 (by omega) (hb2.trans hb)
  exact l_arm F ao_thread (l_in h5 hL (by decide)) (cg_thread z l hl0 xs _) (mg_m_thread z l hl0) rfl (mg_m_thrown z l hl0) a1 a2 a3 a4 a5 a6 a7 a8 a9 a10 hb bd.1 bd.2 hl hA (fun ls' H' locs' hl' hA' => kk h2 ls' H' locs' I2 (hb2.trans hb) hl' hA')
theorem la_look {j : Nat} (hl0 : l.stackTraces = false) (F : lFix z p s m c D dA b Ls xs) (h5 : 5 * j + 5 ≤ Ls) (hL : Ls ≤ 2560) : lArm z p l e s m below meth c Q D dA b x M o 1133 j := by
  intro h ls H locs I hb hl hA kk
  obtain ⟨r, r', k, v, h2, f, fs, fs1, fs2, a1, a2, a3, a4, a5, a6, a7, a8, a9, a10, I2, hb2⟩ := l_step (fC := f_K_look z) (fM := f_M_look z) (as := lAs xs (nI (5 * j)) 3) I (by omega) (fun W K c s n J ok hz hC hK => sim_look J ok hz hC hK (lV xs (nI (5 * j)) 1) (lV xs (nI (5 * j)) 2) (lV xs (nI (5 * j)) 3))
  have bd := l_bd (s := s) I2 (by omega) (hb2.trans hb)
  exact l_arm F ao_look (l_in h5 hL (by decide)) (cg_look z l hl0 xs _) (mg_m_look z l hl0) rfl (mg_m_thrown z l hl0) a1 a2 a3 a4 a5 a6 a7 a8 a9 a10 hb bd.1 bd.2 hl hA (fun ls' H' locs' hl' hA' => kk h2 ls' H' locs' I2 (hb2.trans hb) hl' hA')
theorem la_current {j : Nat} (hl0 : l.stackTraces = false) (F : lFix z p s m c D dA b Ls xs) (h5 : 5 * j + 5 ≤ Ls) (hL : Ls ≤ 2560) : lArm z p l e s m below meth c Q D dA b x M o 1052 j := by
  intro h ls H locs I hb hl hA kk
  obtain ⟨v, h1, h2, fs, fs1, a1, a2, a5, a6, I2, hb2⟩ := l_stepZ (fC := f_K_current z) (fM := f_M_current z) (as := lAs xs (nI (5 * j)) 0) I (by omega) (fun W K c s n J ok hz hC hK => sim_current J ok hz hC hK)
  have bd := l_bd (s := s) I2 (by omega) (hb2.trans hb)
  exact l_armZ F az_current (l_in h5 hL (by decide)) (mg_k_current z l hl0) rfl (mg_m_current z l hl0) rfl a1 a2 a5 a6 hb bd.1 bd.2 hl hA (fun ls' H' locs' hl' hA' => kk h2 ls' H' locs' I2 (hb2.trans hb) hl' hA')
theorem la_count {j : Nat} (hl0 : l.stackTraces = false) (F : lFix z p s m c D dA b Ls xs) (h5 : 5 * j + 5 ≤ Ls) (hL : Ls ≤ 2560) : lArm z p l e s m below meth c Q D dA b x M o 1213 j := by
  intro h ls H locs I hb hl hA kk
  obtain ⟨v, h1, h2, fs, fs1, a1, a2, a5, a6, I2, hb2⟩ := l_stepZ (fC := f_K_count z) (fM := f_M_count z) (as := lAs xs (nI (5 * j)) 1) I (by omega) (fun W K c s n J ok hz hC hK => sim_count J ok hz hC hK (lV xs (nI (5 * j)) 1))
  have bd := l_bd (s := s) I2 (by omega) (hb2.trans hb)
  exact l_armZ F az_count (l_in h5 hL (by decide)) (mg_k_count z l hl0) rfl (mg_m_count z l hl0) rfl a1 a2 a5 a6 hb bd.1 bd.2 hl hA (fun ls' H' locs' hl' hA' => kk h2 ls' H' locs' I2 (hb2.trans hb) hl' hA')
set_option maxHeartbeats 1000000 in
theorem l_loop (hl0 : l.stackTraces = false) (F : lFix z p s m c D dA b Ls xs) (hL : Ls ≤ 2560) (kEnd : ∀ (h : xH) (ls : Array Slot) (H : Heap) (locs : List Loc), h.1 = s.heap.size → xn h - s.heap.size ≤ 601024 → h.2.1 ≤ 7293033 → xAt D dA s locs h H → W p l e room_1 s m #[Value.ref b] below meth c H locs (xn h - s.heap.size) h.2.1 Q (F0 m 1244 ls [])) :
    ∀ (n j : Nat) (h : xH) (ls : Array Slot) (H : Heap) (locs : List Loc), Ls < 5 * (j + n) + 5 → 5 * j ≤ Ls → lInv z x M o j h → h.1 = s.heap.size → xlv ls 7 (lL b x M o (nI (5 * j))) → xAt D dA s locs h H → W p l e room_1 s m #[Value.ref b] below meth c H locs (xn h - s.heap.size) h.2.1 Q (F0 m 23 ls []) := by
  intro n
  induction n with
  | zero =>
    intro j h ls H locs hn hj I hb hl hA
    obtain ⟨-, -, t23, t25, t26, t27, t28, t29, -⟩ := tl_1238
    obtain ⟨⟨hx, hB, hml, hown, hts⟩, hX, hbl, -, -⟩ := id F
    have hS : va_S (fun q => s.heap.size ≤ q) s.heap H locs := by have := hA.2; rw [hb] at this; exact this
    refine lv_iload hx hB ((lcd t23).1.len (by simp [xlen])) (hl.at (i := 4) (v := .int (nI (5 * j))) rfl) ?_
    refine lv_aload_n hx hB ((lcd t25).1.len (by simp [xlen])) rfl (hl.at (i := 0) (v := .ref b) rfl) ?_
    refine va_slen hx hB hX hbl (fun w => Nat.not_le.mpr hbl w) hS ((lcd t26).1.len (by simp [xlen])) ?_
    refine lv_iconst (v := 5) hx hB ((lcd t27).1.len (by simp [xlen])) (by decide) ?_
    refine lv_isub hx hB ((lcd t28).1.len (by simp [xlen])) ?_
    have bd := l_bd (s := s) I (by omega) hb
    exact lv_icmp_gt (tgt := 1244) hx hB ((lcd t29).1.len (by simp [xlen])) (by decide) (fun _ => kEnd h ls H locs hb bd.1 bd.2 hA) (fun w => absurd ((l_top hL (by omega)).mpr (by omega)) w)
  | succ n ih =>
    intro j h ls H locs hn hj I hb hl hA
    obtain ⟨t1238, t1241, t23, t25, t26, t27, t28, t29, t32, t33, t35, t36, t38⟩ := tl_1238
    obtain ⟨⟨hx, hB, hml, hown, hts⟩, hX, hbl, -, -⟩ := id F
    have hS : va_S (fun q => s.heap.size ≤ q) s.heap H locs := by have := hA.2; rw [hb] at this; exact this
    refine lv_iload hx hB ((lcd t23).1.len (by simp [xlen])) (hl.at (i := 4) (v := .int (nI (5 * j))) rfl) ?_
    refine lv_aload_n hx hB ((lcd t25).1.len (by simp [xlen])) rfl (hl.at (i := 0) (v := .ref b) rfl) ?_
    refine va_slen hx hB hX hbl (fun w => Nat.not_le.mpr hbl w) hS ((lcd t26).1.len (by simp [xlen])) ?_
    refine lv_iconst (v := 5) hx hB ((lcd t27).1.len (by simp [xlen])) (by decide) ?_
    refine lv_isub hx hB ((lcd t28).1.len (by simp [xlen])) ?_
    have bd := l_bd (s := s) I (by omega) hb
    refine lv_icmp_gt (tgt := 1244) hx hB ((lcd t29).1.len (by simp [xlen])) (by decide) (fun _ => kEnd h ls H locs hb bd.1 bd.2 hA) (fun w => ?_)
    have h5 : 5 * j + 5 ≤ Ls := by
      have : ¬ Ls < 5 * j + 5 := fun q => w ((l_top hL (by omega)).mpr q)
      omega
    have next : ∀ h2 ls' H' locs', lInv z x M o (j + 1) h2 → h2.1 = s.heap.size → xlv ls' 7 (lL b x M o (nI (5 * j))) → xAt D dA s locs' h2 H' → W p l e room_1 s m #[Value.ref b] below meth c H' locs' (xn h2 - s.heap.size) h2.2.1 Q (F0 m 1238 ls' []) := by
      intro h2 ls' H' locs' I2 hb2 hl2 hA2
      refine lv_iinc (lv := lL b x M o (nI (5 * j))) (k := 4) hx hB ((lcd t1238).1.len (by simp [xlen])) hl2.1 rfl rfl (by decide) rfl (fun ls3 hl3 => ?_)
      refine lv_goto (tgt := 23) hx hB ((lcd t1241).1.len (by simp [xlen])) (by decide) ?_
      refine ih (j + 1) h2 ls3 H' locs' (by omega) (by omega) I2 hb2 ?_ hA2
      have := hl2.st (v := .int (nI (5 * j) + Int32.ofInt 5)) rfl hl3
      rw [show Int32.ofInt 5 = Int32.ofInt ((5 : Nat) : Int) from rfl, nI_ofI, show 5 * j + 5 = 5 * (j + 1) by omega] at this
      exact this
    refine lv_aload_n hx hB ((lcd t32).1.len (by simp [xlen])) rfl (hl.at (i := 0) (v := .ref b) rfl) ?_
    refine lv_iload hx hB ((lcd t33).1.len (by simp [xlen])) (hl.at (i := 4) (v := .int (nI (5 * j))) rfl) ?_
    refine va_sld hx hB hX hbl (fun w => Nat.not_le.mpr hbl w) hS (vp_in_nI (by omega) (by omega)) ((lcd t35).1.len (by simp [xlen])) ?_
    refine lv_bipush hx hB ((lcd t36).1.len (by simp [xlen])) rfl ?_
    refine lv_iand hx hB ((lcd t38).1.len (by simp [xlen])) ?_
    obtain ⟨k, hk, ek⟩ := l_code (xs (nI (5 * j)).toNatClampNeg)
    rw [ek]
    obtain ⟨len, hsw⟩ := l_sw
    by_cases k18 : k < 18
    · have key : ∀ P : Nat, (∃ off, (#[85, 165, 257, 325, 381, 437, 517, 597, 665, 733, 789, 845, 901, 945, 1013, 1026, 1094, 1174] : Array Int)[k]? = some off ∧ ((39 : Nat) : Int) + off = (P : Int)) → lArm z p l e s m below meth c Q D dA b x M o P j → W p l e room_1 s m #[Value.ref b] below meth c H locs (xn h - s.heap.size) h.2.1 Q (F0 m 39 ls [.int (nI k)]) := by
        intro P ⟨off, ho, hP⟩ hArm
        have ek2 : (nI k).toInt = (k : Int) := Int32.toInt_ofNat_of_lt (by omega)
        refine lv_tableIn (tgt := P) hx hB hsw (by rw [ek2]; omega) (by rw [ek2]; omega) ?_ hP (hArm h ls H locs I hb hl hA next)
        rw [ek2, show ((k : Int) - 0).toNat = k by omega]
        exact ho
      rcases (by omega : k = 0 ∨ k = 1 ∨ k = 2 ∨ k = 3 ∨ k = 4 ∨ k = 5 ∨ k = 6 ∨ k = 7 ∨ k = 8 ∨ k = 9 ∨ k = 10 ∨ k = 11 ∨ k = 12 ∨ k = 13 ∨ k = 14 ∨ k = 15 ∨ k = 16 ∨ k = 17) with rfl | rfl | rfl | rfl | rfl | rfl | rfl | rfl | rfl | rfl | rfl | rfl | rfl | rfl | rfl | rfl | rfl | rfl
      · exact key 124 ⟨_, rfl, by decide⟩ (la_copy hl0 F h5 hL)
      · exact key 204 ⟨_, rfl, by decide⟩ (la_mint hl0 F h5 hL)
      · exact key 296 ⟨_, rfl, by decide⟩ (la_move hl0 F h5 hL)
      · exact key 364 ⟨_, rfl, by decide⟩ (la_delete hl0 F h5 hL)
      · exact key 420 ⟨_, rfl, by decide⟩ (la_revoke hl0 F h5 hL)
      · exact key 476 ⟨_, rfl, by decide⟩ (la_retype hl0 F h5 hL)
      · exact key 556 ⟨_, rfl, by decide⟩ (la_send hl0 F h5 hL)
      · exact key 636 ⟨_, rfl, by decide⟩ (la_call hl0 F h5 hL)
      · exact key 704 ⟨_, rfl, by decide⟩ (la_receive hl0 F h5 hL)
      · exact key 772 ⟨_, rfl, by decide⟩ (la_answer hl0 F h5 hL)
      · exact key 828 ⟨_, rfl, by decide⟩ (la_signal hl0 F h5 hL)
      · exact key 884 ⟨_, rfl, by decide⟩ (la_await hl0 F h5 hL)
      · exact key 940 ⟨_, rfl, by decide⟩ (la_pass hl0 F h5 hL)
      · exact key 984 ⟨_, rfl, by decide⟩ (la_priority hl0 F h5 hL)
      · exact key 1052 ⟨_, rfl, by decide⟩ (la_current hl0 F h5 hL)
      · exact key 1065 ⟨_, rfl, by decide⟩ (la_thread hl0 F h5 hL)
      · exact key 1133 ⟨_, rfl, by decide⟩ (la_look hl0 F h5 hL)
      · exact key 1213 ⟨_, rfl, by decide⟩ (la_count hl0 F h5 hL)
    · have ek2 : (nI k).toInt = (k : Int) := Int32.toInt_ofNat_of_lt (by omega)
      exact lv_tableOut (tgt := 1238) hx hB hsw (by rw [ek2]; omega) (by decide) (next h ls H locs I.next hb hl hA)
end LL
