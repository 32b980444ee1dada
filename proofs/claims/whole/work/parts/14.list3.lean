theorem run_co2 (z : xzs) : xRun (K_co2 z) (T_co2 z) 2 (f_co2 z) := by
  intro as h r hf
  unfold f_co2 at hf
  split at hf
  · rename_i d n
    obtain ⟨h', e1, hf1⟩ := Option.bind_eq_some_iff.mp hf
    cases hf1
    have e0 := e1
    unfold xlong at e1
    obtain ⟨e, ea, e2⟩ := Option.bind_eq_some_iff.mp e1
    obtain ⟨⟨c, len, f⟩, eb, e3⟩ := Option.bind_eq_some_iff.mp e2
    dsimp only at e3
    split at e3
    · rename_i hc
      refine ⟨⟨Nat.le_refl _, rfl⟩, rs_s (x' := (1, [(0, .ref d), (1, .int n)], [.ref d], h)) rfl ?_⟩
      refine rs_s (x' := (2, [(0, .ref d), (1, .int n)], [.int n, .ref d], h)) rfl ?_
      refine rs_s (x' := (3, [(0, .ref d), (1, .int n)], [.ref d, .int n, .ref d], h)) rfl ?_
      refine rs_sp (x' := (6, [(0, .ref d), (1, .int n)], [.ref z.2.2.2, .int n, .ref d], h)) (g := sp_getC z.2.2.2) rfl ?_ ?_
      · show ((xat h d).bind fun e => (xaq e).bind fun q => if q.1 = 4 ∧ 2 ≤ 4 then _ else _) = _
        rw [ea, Option.bind_some, eb, Option.bind_some, if_pos ⟨hc.1, by decide⟩]
      · refine rs_call (o := f_co3 z [.ref d, .int n, .ref z.2.2.2] h) (v := some (.ref (xn h))) (h' := h') (t := []) rfl rfl rfl rfl ?_ ?_
        · show (if z.2.2.2 = z.2.2.2 then (xlong h d n).bind _ else none) = _
          rw [if_pos rfl, e0]
          rfl
        · exact rs_aret (v := some (xn h)) rfl rfl rfl rfl rfl
    · cases e3
  · cases hf
theorem nI_half {n : Nat} (h : n ≤ 40000) : nI n >>> ((1 : Int32) &&& 31) = nI (n / 2) := pk_shrN (by omega) _ 1 (by decide)
theorem run_gr1 (z : xzs) : xRun (K_gr1 z) (T_gr1 z) 4 (f_gr1 z) := by
  intro as h r hf
  unfold f_gr1 at hf
  split at hf
  · rename_i a mn
    obtain ⟨d0, e1, hf1⟩ := Option.bind_eq_some_iff.mp hf
    obtain ⟨d, hd, hf2⟩ := Option.bind_eq_some_iff.mp hf1
    subst hd
    have hg := rdR_rd e1
    refine ⟨⟨Nat.le_add_right 2 2, rfl⟩, rs_s (x' := (1, [(0, .ref a), (1, .int mn)], [.ref a], h)) rfl ?_⟩
    refine rs_get rfl rfl rfl rfl hg ?_
    show xrE _ _ (4, [(0, .ref a), (1, .int mn)], [.ref d], h) _
    split at hf2
    · rename_i hdz
      split at hf2
      · rename_i hmn
        subst hmn
        obtain ⟨h', ew, hf3⟩ := Option.bind_eq_some_iff.mp hf2
        cases hf3
        refine rs_sp (x' := (5, [(0, .ref a), (1, .int 1)], [.int 0], h)) (g := sp_alen z.1) rfl (if_pos hdz) ?_
        refine rs_s (x' := (6, [(0, .ref a), (1, .int 1), (2, .int 0)], [], h)) rfl ?_
        refine rs_s (x' := (7, [(0, .ref a), (1, .int 1), (2, .int 0)], [.int 0], h)) rfl ?_
        refine rs_if (q := 20) rfl rfl rfl rfl (fun w => absurd w (by decide)) (fun _ => ?_)
        refine rs_s (x' := (11, [(0, .ref a), (1, .int 1), (2, .int 0)], [.ref a], h)) rfl ?_
        refine rs_get rfl rfl rfl rfl hg ?_
        show xrE _ _ (14, [(0, .ref a), (1, .int 1), (2, .int 0)], [.ref d], h) _
        refine rs_sp (x' := (17, [(0, .ref a), (1, .int 1), (2, .int 0)], [.ref z.1, .ref d], h)) (g := sp_gets (.ref z.1)) rfl rfl ?_
        refine rs_s (x' := (45, [(0, .ref a), (1, .int 1), (2, .int 0)], [], h)) (xstep_am rfl rfl rfl ?_) ?_
        · show (if some d = some z.1 then _ else _) = _
          rw [if_pos (by rw [hdz])]
          rfl
        refine rs_s (x' := (46, [(0, .ref a), (1, .int 1), (2, .int 0)], [.ref a], h)) rfl ?_
        refine rs_s (x' := (48, [(0, .ref a), (1, .int 1), (2, .int 0)], [.int 10, .ref a], h)) rfl ?_
        refine rs_s (x' := (49, [(0, .ref a), (1, .int 1), (2, .int 0)], [.int 1, .int 10, .ref a], h)) rfl ?_
        refine rs_sp (x' := (52, [(0, .ref a), (1, .int 1), (2, .int 0)], [.int 10, .ref a], h)) (g := sp_max) rfl rfl ?_
        refine rs_newQ rfl rfl rfl rfl (by decide) ?_
        show xrE _ _ (55, [(0, .ref a), (1, .int 1), (2, .int 0)], [.ref (xn h), .ref a], xpush h 10 (xobs (fun _ => none) 10)) _
        refine rs_s (x' := (56, [(0, .ref a), (1, .int 1), (2, .int 0)], [.ref (xn h), .ref a, .ref (xn h)], xpush h 10 (xobs (fun _ => none) 10))) rfl ?_
        refine rs_put rfl rfl rfl rfl rfl rfl ew ?_
        exact rs_aret (v := some (xn h)) rfl rfl rfl rfl rfl
      · cases hf2
    · rename_i hdz
      obtain ⟨n, en, hf3⟩ := Option.bind_eq_some_iff.mp hf2
      split at hf3
      · rename_i hc
        obtain ⟨h2, h4, rfl⟩ := hc
        obtain ⟨h1, el, hf4⟩ := Option.bind_eq_some_iff.mp hf3
        obtain ⟨h', ew, hf5⟩ := Option.bind_eq_some_iff.mp hf4
        cases hf5
        refine rs_alen (n := n) (if_neg hdz) rfl rfl en ?_
        refine rs_s (x' := (6, [(0, .ref a), (1, .int (nI (n + 1))), (2, .int (nI n))], [], h)) rfl ?_
        refine rs_s (x' := (7, [(0, .ref a), (1, .int (nI (n + 1))), (2, .int (nI n))], [.int (nI n)], h)) rfl ?_
        refine rs_if (q := 20) rfl rfl rfl rfl (fun _ => ?_) (fun w => absurd (xc_gt.mpr (by have := nI_lt (a := 0) (b := n) (by omega) (by omega); rw [nI_0] at this; exact this)) w)
        refine rs_s (x' := (21, [(0, .ref a), (1, .int (nI (n + 1))), (2, .int (nI n))], [.int (nI n)], h)) rfl ?_
        refine rs_s (x' := (22, [(0, .ref a), (1, .int (nI (n + 1))), (2, .int (nI n))], [.int (nI (n + 1)), .int (nI n)], h)) rfl ?_
        refine rs_s (x' := (23, [(0, .ref a), (1, .int (nI (n + 1))), (2, .int (nI n))], [.int (nI n), .int (nI (n + 1)), .int (nI n)], h)) rfl ?_
        refine rs_s (x' := (24, [(0, .ref a), (1, .int (nI (n + 1))), (2, .int (nI n))], [.int (nI (n + 1) - nI n), .int (nI n)], h)) rfl ?_
        refine rs_s (x' := (25, [(0, .ref a), (1, .int (nI (n + 1))), (2, .int (nI n))], [.int (nI n), .int (nI (n + 1) - nI n), .int (nI n)], h)) rfl ?_
        refine rs_s (x' := (26, [(0, .ref a), (1, .int (nI (n + 1))), (2, .int (nI n))], [.int 1, .int (nI n), .int (nI (n + 1) - nI n), .int (nI n)], h)) rfl ?_
        refine rs_s (x' := (27, [(0, .ref a), (1, .int (nI (n + 1))), (2, .int (nI n))], [.int (nI n >>> ((1 : Int32) &&& 31)), .int (nI (n + 1) - nI n), .int (nI n)], h)) rfl ?_
        rw [nI_half h4, show nI (n + 1) - nI n = nI 1 by rw [pk_sub (by omega), show n + 1 - n = 1 by omega]]
        have hmx : nI n + (if nI 1 < nI (n / 2) then nI (n / 2) else nI 1) = nI (n + n / 2) := by
          by_cases hq : 1 < n / 2
          · rw [if_pos (nI_lt hq (by omega)), nI_add]
          · rw [if_neg (nI_nlt (by omega) (by omega)), nI_add, show n / 2 = 1 by omega]
        refine rs_call (o := f_nl [.int (nI n), .int (nI 1), .int (nI (n / 2))] h) (v := some (.int (nI (n + n / 2)))) (h' := h) (t := []) rfl rfl rfl rfl ?_ ?_
        · show (if 0 < nI n + (if nI 1 < nI (n / 2) then nI (n / 2) else nI 1) ∧ nI n + (if nI 1 < nI (n / 2) then nI (n / 2) else nI 1) ≤ 2147483639 then _ else none) = _
          rw [hmx]
          rw [if_pos ⟨by have := nI_lt (a := 0) (b := n + n / 2) (by omega) (by omega); rw [nI_0] at this; exact this, by have := nI_le (a := n + n / 2) (b := 2147483639) (by omega) (by omega); exact this⟩]
        refine rs_s (x' := (31, [(0, .ref a), (1, .int (nI (n + 1))), (2, .int (nI n)), (3, .int (nI (n + n / 2)))], [], h)) rfl ?_
        refine rs_s (x' := (32, [(0, .ref a), (1, .int (nI (n + 1))), (2, .int (nI n)), (3, .int (nI (n + n / 2)))], [.ref a], h)) rfl ?_
        refine rs_s (x' := (33, [(0, .ref a), (1, .int (nI (n + 1))), (2, .int (nI n)), (3, .int (nI (n + n / 2)))], [.ref a, .ref a], h)) rfl ?_
        refine rs_get rfl rfl rfl rfl hg ?_
        show xrE _ _ (36, [(0, .ref a), (1, .int (nI (n + 1))), (2, .int (nI n)), (3, .int (nI (n + n / 2)))], [.ref d, .ref a], h) _
        refine rs_s (x' := (37, [(0, .ref a), (1, .int (nI (n + 1))), (2, .int (nI n)), (3, .int (nI (n + n / 2)))], [.int (nI (n + n / 2)), .ref d, .ref a], h)) rfl ?_
        refine rs_call (o := f_co2 z [.ref d, .int (nI (n + n / 2))] h) (v := some (.ref (xn h))) (h' := h1) (t := [.ref a]) rfl rfl rfl rfl ?_ ?_
        · show (xlong h d (nI (n + n / 2))).bind _ = _
          rw [el]
          rfl
        show xrE _ _ (40, [(0, .ref a), (1, .int (nI (n + 1))), (2, .int (nI n)), (3, .int (nI (n + n / 2)))], [.ref (xn h), .ref a], h1) _
        refine rs_s (x' := (41, [(0, .ref a), (1, .int (nI (n + 1))), (2, .int (nI n)), (3, .int (nI (n + n / 2)))], [.ref (xn h), .ref a, .ref (xn h)], h1)) rfl ?_
        refine rs_put rfl rfl rfl rfl rfl rfl ew ?_
        exact rs_aret (v := some (xn h)) rfl rfl rfl rfl rfl
      · cases hf3
  · cases hf
theorem run_gr0 (z : xzs) : xRun (K_gr0 z) tNo 1 (f_gr0 z) := by
  intro as h r hf
  unfold f_gr0 at hf
  split at hf
  · rename_i a
    obtain ⟨s, e1, hf1⟩ := Option.bind_eq_some_iff.mp hf
    have hret : ∃ x h', r = (.inl (some (.ref x)), h') := by
      have hf2 := hf1
      unfold f_gr1 at hf2
      dsimp only at hf2
      obtain ⟨d0, e1, hf1⟩ := Option.bind_eq_some_iff.mp hf2
      obtain ⟨d, hd, hf2⟩ := Option.bind_eq_some_iff.mp hf1
      subst hd
      split at hf2
      · split at hf2
        · obtain ⟨h', ew, hf3⟩ := Option.bind_eq_some_iff.mp hf2
          cases hf3
          exact ⟨_, _, rfl⟩
        · cases hf2
      · obtain ⟨n, en, hf3⟩ := Option.bind_eq_some_iff.mp hf2
        split at hf3
        · obtain ⟨h1, el, hf4⟩ := Option.bind_eq_some_iff.mp hf3
          obtain ⟨h', ew, hf5⟩ := Option.bind_eq_some_iff.mp hf4
          cases hf5
          exact ⟨_, _, rfl⟩
        · cases hf3
    obtain ⟨x, h', rfl⟩ := hret
    refine ⟨⟨Nat.le_refl _, rfl⟩, rs_s (x' := (1, [(0, .ref a)], [.ref a], h)) rfl ?_⟩
    refine rs_s (x' := (2, [(0, .ref a)], [.ref a, .ref a], h)) rfl ?_
    refine rs_get rfl rfl rfl rfl (rdI_rd e1) ?_
    show xrE _ _ (5, [(0, .ref a)], [.int s, .ref a], h) _
    refine rs_s (x' := (6, [(0, .ref a)], [.int 1, .int s, .ref a], h)) rfl ?_
    refine rs_s (x' := (7, [(0, .ref a)], [.int (s + 1), .ref a], h)) rfl ?_
    refine rs_callV (f := f_gr1 z) (n := 1) (As := [.int (s + 1)]) (b := a) (t := []) (v := some (.ref x)) (h' := h') rfl rfl rfl rfl (Nat.le_of_ble_eq_true rfl) rfl rfl (Nat.le_of_ble_eq_true rfl) (xrd_isO (rdI_rd e1)) hf1 ?_
    exact rs_aret (v := some x) rfl rfl rfl rfl rfl
  · cases hf
theorem xputs_run {z : xzs} {a e d : Nat} {s : Int32} {x2 : Nat} {h : xH} {r : xR} (hf : xputs h a d e s = some r) : xrE (K_add3 z) (T_add3 z) (11, [(0, .ref a), (1, .ref e), (2, .ref d), (3, .int s)], [], h) r := by
  unfold xputs at hf
  obtain ⟨h1, e1, hf1⟩ := Option.bind_eq_some_iff.mp hf
  obtain ⟨h2, e2, hf2⟩ := Option.bind_eq_some_iff.mp hf1
  cases hf2
  refine rs_s (x' := (12, [(0, .ref a), (1, .ref e), (2, .ref d), (3, .int s)], [.ref d], h)) rfl ?_
  refine rs_s (x' := (13, [(0, .ref a), (1, .ref e), (2, .ref d), (3, .int s)], [.int s, .ref d], h)) rfl ?_
  refine rs_s (x' := (14, [(0, .ref a), (1, .ref e), (2, .ref d), (3, .int s)], [.ref e, .int s, .ref d], h)) rfl ?_
  refine rs_sp (x' := (15, [(0, .ref a), (1, .ref e), (2, .ref d), (3, .int s)], [], h1)) (g := sp_aast) rfl ?_ ?_
  · show (spQ h d s e).bind _ = _
    rw [e1]
    rfl
  refine rs_s (x' := (16, [(0, .ref a), (1, .ref e), (2, .ref d), (3, .int s)], [.ref a], h1)) rfl ?_
  refine rs_s (x' := (17, [(0, .ref a), (1, .ref e), (2, .ref d), (3, .int s)], [.int s, .ref a], h1)) rfl ?_
  refine rs_s (x' := (18, [(0, .ref a), (1, .ref e), (2, .ref d), (3, .int s)], [.int 1, .int s, .ref a], h1)) rfl ?_
  refine rs_s (x' := (19, [(0, .ref a), (1, .ref e), (2, .ref d), (3, .int s)], [.int (s + 1), .ref a], h1)) rfl ?_
  exact rs_put rfl rfl rfl rfl rfl rfl e2 (rs_e rfl)
theorem run_add3 (z : xzs) : xRun (K_add3 z) (T_add3 z) 4 (f_add3 z) := by
  intro as h r hf
  unfold f_add3 at hf
  split at hf
  · rename_i a e d s
    obtain ⟨n, en, hf1⟩ := Option.bind_eq_some_iff.mp hf
    refine ⟨⟨Nat.le_refl _, rfl⟩, rs_s (x' := (1, [(0, .ref a), (1, .ref e), (2, .ref d), (3, .int s)], [.int s], h)) rfl ?_⟩
    refine rs_s (x' := (2, [(0, .ref a), (1, .ref e), (2, .ref d), (3, .int s)], [.ref d, .int s], h)) rfl ?_
    have kk : xrE (K_add3 z) (T_add3 z) (3, [(0, .ref a), (1, .ref e), (2, .ref d), (3, .int s)], [.int (Int32.ofNat n), .int s], h) r := by
      refine rs_icmp (q := 11) rfl rfl rfl rfl (fun w => ?_) (fun w => ?_)
      · rw [if_neg (xc_ne.mp w)] at hf1
        exact xputs_run (x2 := 0) hf1
      · rw [if_pos (Classical.not_not.mp (fun q => w (xc_ne.mpr q)))] at hf1
        obtain ⟨_, ho, hf2⟩ := Option.bind_eq_some_iff.mp hf1
        obtain ⟨⟨o, h1⟩, eg, hf3⟩ := Option.bind_eq_some_iff.mp hf2
        dsimp only at hf3
        split at hf3
        · rename_i o' d'
          refine rs_s (x' := (7, [(0, .ref a), (1, .ref e), (2, .ref d), (3, .int s)], [.ref a], h)) rfl ?_
          refine rs_callV (f := f_gr0 z) (n := 0) (As := []) (b := a) (t := []) (v := some (.ref d')) (h' := h1) rfl rfl rfl rfl (Nat.zero_le _) rfl rfl (Nat.le_of_ble_eq_true rfl) ho eg ?_
          refine rs_s (x' := (11, [(0, .ref a), (1, .ref e), (2, .ref d'), (3, .int s)], [], h1)) rfl ?_
          exact xputs_run (x2 := 0) hf3
        · cases hf3
    by_cases hd : d = z.1
    · rw [if_pos hd] at en
      cases en
      exact rs_sp (g := sp_alen z.1) rfl (if_pos hd) kk
    · rw [if_neg hd] at en
      exact rs_alen (if_neg hd) rfl rfl en kk
  · cases hf
theorem run_fr : xRun K_fr T_fr 4 f_fr := by
  intro as h r hf
  unfold f_fr at hf
  split at hf
  · rename_i a d i
    obtain ⟨m, e1, hf1⟩ := Option.bind_eq_some_iff.mp hf
    obtain ⟨h1, e2, hf2⟩ := Option.bind_eq_some_iff.mp hf1
    obtain ⟨s, e3, hf3⟩ := Option.bind_eq_some_iff.mp hf2
    obtain ⟨h2, e4, hf4⟩ := Option.bind_eq_some_iff.mp hf3
    obtain ⟨h3, e5, hf5⟩ := Option.bind_eq_some_iff.mp hf4
    obtain ⟨h4, e6, hf6⟩ := Option.bind_eq_some_iff.mp hf5
    cases hf6
    refine ⟨⟨Nat.le_succ _, rfl⟩, rs_s (x' := (1, [(0, .ref a), (1, .ref d), (2, .int i)], [.ref a], h)) rfl ?_⟩
    refine rs_s (x' := (2, [(0, .ref a), (1, .ref d), (2, .int i)], [.ref a, .ref a], h)) rfl ?_
    refine rs_sp (x' := (5, [(0, .ref a), (1, .ref d), (2, .int i)], [.int m, .ref a], h)) (g := sp_get 7 1) rfl (by show (xrd h a 7 1).bind _ = _; rw [rdI_rd e1]; rfl) ?_
    refine rs_s (x' := (6, [(0, .ref a), (1, .ref d), (2, .int i)], [.int 1, .int m, .ref a], h)) rfl ?_
    refine rs_s (x' := (7, [(0, .ref a), (1, .ref d), (2, .int i)], [.int (m + 1), .ref a], h)) rfl ?_
    refine rs_sp (x' := (10, [(0, .ref a), (1, .ref d), (2, .int i)], [], h1)) (g := sp_put 7 1) rfl (by show (xwr h a 7 1 (.int (m + 1))).bind _ = _; rw [e2]; rfl) ?_
    refine rs_s (x' := (11, [(0, .ref a), (1, .ref d), (2, .int i)], [.ref a], h1)) rfl ?_
    refine rs_get rfl rfl rfl rfl (rdI_rd e3) ?_
    show xrE _ _ (14, [(0, .ref a), (1, .ref d), (2, .int i)], [.int s], h1) _
    refine rs_s (x' := (15, [(0, .ref a), (1, .ref d), (2, .int i)], [.int 1, .int s], h1)) rfl ?_
    refine rs_s (x' := (16, [(0, .ref a), (1, .ref d), (2, .int i)], [.int (s - 1)], h1)) rfl ?_
    refine rs_s (x' := (17, [(0, .ref a), (1, .ref d), (2, .int i)], [.int (s - 1), .int (s - 1)], h1)) rfl ?_
    refine rs_s (x' := (18, [(0, .ref a), (1, .ref d), (2, .int i), (3, .int (s - 1))], [.int (s - 1)], h1)) rfl ?_
    refine rs_s (x' := (19, [(0, .ref a), (1, .ref d), (2, .int i), (3, .int (s - 1))], [.int i, .int (s - 1)], h1)) rfl ?_
    have kk : xrE K_fr T_fr (34, [(0, .ref a), (1, .ref d), (2, .int i), (3, .int (s - 1))], [], h2) (.inl none, h4) := by
      refine rs_s (x' := (35, [(0, .ref a), (1, .ref d), (2, .int i), (3, .int (s - 1))], [.ref d], h2)) rfl ?_
      refine rs_s (x' := (36, [(0, .ref a), (1, .ref d), (2, .int i), (3, .int (s - 1))], [.ref a, .ref d], h2)) rfl ?_
      refine rs_s (x' := (37, [(0, .ref a), (1, .ref d), (2, .int i), (3, .int (s - 1))], [.int (s - 1), .ref a, .ref d], h2)) rfl ?_
      refine rs_s (x' := (38, [(0, .ref a), (1, .ref d), (2, .int i), (3, .int (s - 1))], [.int (s - 1), .ref a, .int (s - 1), .ref d], h2)) rfl ?_
      refine rs_put rfl rfl rfl rfl rfl rfl e5 ?_
      show xrE _ _ (41, [(0, .ref a), (1, .ref d), (2, .int i), (3, .int (s - 1))], [.int (s - 1), .ref d], h3) _
      refine rs_s (x' := (42, [(0, .ref a), (1, .ref d), (2, .int i), (3, .int (s - 1))], [.null, .int (s - 1), .ref d], h3)) rfl ?_
      exact rs_astN rfl rfl rfl e6 (rs_e rfl)
    refine rs_icmp (q := 34) rfl rfl rfl rfl (fun w => ?_) (fun w => ?_)
    · rw [if_neg (Int32.not_lt.mpr (xc_le.mp w))] at e4
      cases e4
      exact kk
    · rw [if_pos (Int32.not_le.mp (fun q => w (xc_le.mpr q)))] at e4
      show xrE _ _ (22, [(0, .ref a), (1, .ref d), (2, .int i), (3, .int (s - 1))], [], h1) _
      refine rs_s (x' := (23, [(0, .ref a), (1, .ref d), (2, .int i), (3, .int (s - 1))], [.ref d], h1)) rfl ?_
      refine rs_s (x' := (24, [(0, .ref a), (1, .ref d), (2, .int i), (3, .int (s - 1))], [.int i, .ref d], h1)) rfl ?_
      refine rs_s (x' := (25, [(0, .ref a), (1, .ref d), (2, .int i), (3, .int (s - 1))], [.int 1, .int i, .ref d], h1)) rfl ?_
      refine rs_s (x' := (26, [(0, .ref a), (1, .ref d), (2, .int i), (3, .int (s - 1))], [.int (i + 1), .ref d], h1)) rfl ?_
      refine rs_s (x' := (27, [(0, .ref a), (1, .ref d), (2, .int i), (3, .int (s - 1))], [.ref d, .int (i + 1), .ref d], h1)) rfl ?_
      refine rs_s (x' := (28, [(0, .ref a), (1, .ref d), (2, .int i), (3, .int (s - 1))], [.int i, .ref d, .int (i + 1), .ref d], h1)) rfl ?_
      refine rs_s (x' := (29, [(0, .ref a), (1, .ref d), (2, .int i), (3, .int (s - 1))], [.int (s - 1), .int i, .ref d, .int (i + 1), .ref d], h1)) rfl ?_
      refine rs_s (x' := (30, [(0, .ref a), (1, .ref d), (2, .int i), (3, .int (s - 1))], [.int i, .int (s - 1), .int i, .ref d, .int (i + 1), .ref d], h1)) rfl ?_
      refine rs_s (x' := (31, [(0, .ref a), (1, .ref d), (2, .int i), (3, .int (s - 1))], [.int (s - 1 - i), .int i, .ref d, .int (i + 1), .ref d], h1)) rfl ?_
      refine rs_sp (x' := (34, [(0, .ref a), (1, .ref d), (2, .int i), (3, .int (s - 1))], [], h2)) (g := sp_copy) rfl ?_ kk
      show (spC h1 d (i + 1) d i (s - 1 - i)).bind _ = _
      rw [e4]
      rfl
  · cases hf
-- the list's cell
theorem xlist_at {h : xH} {a : Nat} {q : Nat × Int32 × Int32} (hq : xlist h a = some q) : xat h a = some (.inr (7, [.ref q.1, .int q.2.1, .int q.2.2])) := by
  unfold xlist at hq
  obtain ⟨d0, e1, hq1⟩ := Option.bind_eq_some_iff.mp hq
  obtain ⟨d, hd, hq2⟩ := Option.bind_eq_some_iff.mp hq1
  subst hd
  obtain ⟨m, e2, hq3⟩ := Option.bind_eq_some_iff.mp hq2
  obtain ⟨s, e3, hq4⟩ := Option.bind_eq_some_iff.mp hq3
  split at hq4
  · rename_i hl
    cases hq4
    have g1 := rdR_rd e1
    have g2 := rdI_rd e2
    have g3 := rdI_rd e3
    unfold xlen3 at hl
    split at hl
    · rename_i ci x y w hx
      unfold xrd at g1 g2 g3
      rw [hx, Option.bind_some] at g1 g2 g3
      obtain ⟨fs, eb, g1⟩ := Option.bind_eq_some_iff.mp g1
      rw [eb, Option.bind_some] at g2 g3
      unfold xob at eb
      dsimp only at eb
      split at eb
      · rename_i hc
        cases eb
        cases g1
        cases g2
        cases g3
        rw [hx, hc]
        rfl
      · cases eb
    · cases hl
  · cases hq4
