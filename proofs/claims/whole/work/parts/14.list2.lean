theorem xstep_am {K : xK} {T : xSp} {pc : Nat} {i : xI} {L : xL} {st : List Value} {h : xH} {y : xX ⊕ xR} (hT : T pc = none) (hc : xcd K pc = some i) (hm : xmk K pc = none) (hs : xsem K i pc L st h = some y) : xoS K T (pc, L, st, h) = some y := by
  rw [xoS_am (by rw [hT]; rfl)]
  unfold xstep
  rw [hc, Option.bind_some, hm]
  exact hs
theorem rs_aret {K : xK} {T : xSp} {pc : Nat} {L : xL} {h : xH} {v : Option Nat} {ty : FieldType} (hT : T pc = none) (hc : xcd K pc = some .areturn) (hm : xmk K pc = none) (hr : xrt K = some ty) (hty : ty.isReference = true) : xrE K T (pc, L, [va_rf v], h) (.inl (some (va_rf v)), h) := by
  refine rs_e (xstep_am hT hc hm ?_)
  show xcalls K .areturn pc L [va_rf v] h = _
  unfold xcalls
  rw [xpopr_rf, Option.bind_some, if_pos rfl, hr, if_pos (by simpa using hty)]
theorem rs_aald {K : xK} {T : xSp} {pc a : Nat} {i : Int32} {v : Option Nat} {L : xL} {t : List Value} {h : xH} {r : xR} (hT : T pc = none) (hc : xcd K pc = some .aaload) (hm : xmk K pc = none) (hq : rdQ h a i = some v) (kk : xrE K T (pc + 1, L, va_rf v :: t, h) r) : xrE K T (pc, L, .int i :: .ref a :: t, h) r := by
  refine rs_s (xstep_am hT hc hm ?_) kk
  obtain ⟨e, e1, q1⟩ := Option.bind_eq_some_iff.mp hq
  obtain ⟨w, e2, q2⟩ := Option.bind_eq_some_iff.mp q1
  obtain ⟨j, e3, q3⟩ := Option.bind_eq_some_iff.mp q2
  cases q3
  rw [xsem_mem rfl]
  unfold xmem
  simp only [xpopi, xpop1, xpopa, xpopr, xrv, xiv, Option.bind_some, e1, e2, e3]
theorem rs_alen {K : xK} {T : xSp} {pc a n : Nat} {L : xL} {t : List Value} {h : xH} {r : xR} (hT : (T pc).bind (fun g => g (pc, L, .ref a :: t, h)) = none) (hc : xcd K pc = some .arraylength) (hm : xmk K pc = none) (hq : xalen h a = some n) (kk : xrE K T (pc + 1, L, .int (Int32.ofNat n) :: t, h) r) : xrE K T (pc, L, .ref a :: t, h) r := by
  obtain ⟨e, e1, q1⟩ := Option.bind_eq_some_iff.mp hq
  obtain ⟨w, e2, q2⟩ := Option.bind_eq_some_iff.mp q1
  cases q2
  refine rs_s ?_ kk
  rw [xoS_am hT]
  unfold xstep
  rw [hc, Option.bind_some, hm]
  rw [xsem_mem rfl]
  show xmem K .arraylength pc L (.ref a :: t) h = _
  unfold xmem
  simp only [xpopi, xpop1, xpopa, xpopr, xrv, xiv, Option.bind_some, e1, e2]
theorem rs_astN {K : xK} {T : xSp} {pc a : Nat} {i : Int32} {L : xL} {t : List Value} {h h' : xH} {r : xR} (hT : T pc = none) (hc : xcd K pc = some .aastore) (hm : xmk K pc = none) (hq : wrQ h a i none = some h') (kk : xrE K T (pc + 1, L, t, h') r) : xrE K T (pc, L, .null :: .int i :: .ref a :: t, h) r := by
  refine rs_s (xstep_am hT hc hm ?_) kk
  obtain ⟨e, e1, q1⟩ := Option.bind_eq_some_iff.mp hq
  obtain ⟨w, e2, q2⟩ := Option.bind_eq_some_iff.mp q1
  obtain ⟨j, e3, q3⟩ := Option.bind_eq_some_iff.mp q2
  obtain ⟨u, e4, q4⟩ := Option.bind_eq_some_iff.mp q3
  cases q4
  rw [xsem_mem rfl]
  unfold xmem
  simp only [xpopi, xpop1, xpopa, xpopr, xrv, xiv, Option.bind_some, e1, e2, e3]
theorem rs_newQ {K : xK} {T : xSp} {pc idx : Nat} {n : Int32} {L : xL} {t : List Value} {h : xH} {r : xR} (hT : T pc = none) (hc : xcd K pc = some (.anewarray idx)) (hm : xmk K pc = none) (hk : xan K idx = some 4) (hn : ¬ (n < 0 ∨ 100000 < n.toNatClampNeg)) (kk : xrE K T (pc + 3, L, .ref (xn h) :: t, xpush h n.toNatClampNeg (xobs (fun _ => none) n.toNatClampNeg)) r) : xrE K T (pc, L, .int n :: t, h) r := by
  refine rs_s (xstep_am hT hc hm ?_) kk
  rw [xsem_mem rfl]
  unfold xmem
  simp only [xpopi, xpop1, xiv, Option.bind_some, hk]
  rw [if_neg hn]
  rfl
theorem rs_callV {K : xK} {T : xSp} {pc idx n : Nat} {L : xL} {st t : List Value} {b : Nat} {As : List Value} {h h' : xH} {r : xR} {f : xF} {v : Option Value} (hT : T pc = none) (hc : xcd K pc = some (.invokevirtual idx)) (hm : xmk K pc = none) (hk : xca K idx = some (1, n, 7, f)) (hn : n ≤ st.length) (hd : st.drop n = .ref b :: t) (ht : (st.take n).reverse = As) (hok : t.length ≤ 4) (hO : xisO h b 7 = some ()) (ho : f (.ref b :: As) h = some (.inl v, h')) (k : xrE K T (pc + 3, L, v.toList ++ t, h') r) : xrE K T (pc, L, st, h) r := by
  refine rs_s (xstep_am hT hc hm ?_) k
  obtain ⟨e, e1, q1⟩ := Option.bind_eq_some_iff.mp hO
  obtain ⟨fs, e2, q2⟩ := Option.bind_eq_some_iff.mp q1
  show xcall K 1 idx pc L st h = _
  unfold xcall
  rw [hk, Option.bind_some]
  rw [if_pos (show (1 : Nat) = 1 ∧ n ≤ st.length from ⟨rfl, hn⟩), if_neg (by decide)]
  dsimp only
  rw [hd]
  simp only [xpopa, xpopr, xpop1, xrv, Option.bind_some]
  rw [if_pos (Or.inl hok), if_neg (by decide), if_pos trivial, e1, Option.bind_some, e2, Option.bind_some, ht, ho]
  rfl
theorem run_ed : xRun K_ed tNo 2 f_ed := by
  intro as h r hf
  unfold f_ed at hf
  split at hf
  · obtain ⟨d0, e1, hf1⟩ := Option.bind_eq_some_iff.mp hf
    obtain ⟨d, hd, hf2⟩ := Option.bind_eq_some_iff.mp hf1
    subst hd
    obtain ⟨v, e2, hf3⟩ := Option.bind_eq_some_iff.mp hf2
    cases hf3
    exact ⟨⟨Nat.le_refl _, rfl⟩, rs_s rfl (rs_get rfl rfl rfl rfl (rdR_rd e1) (rs_s rfl (rs_aald rfl rfl rfl e2 (rs_aret rfl rfl rfl rfl rfl))))⟩
  · cases hf
theorem run_A_get (z : xzs) : xRun K_A_get tNo 2 (f_A_get z) := by
  intro as h r hf
  unfold f_A_get at hf
  split at hf
  · rename_i a i
    obtain ⟨s, e1, hf⟩ := Option.bind_eq_some_iff.mp hf
    split at hf
    · cases hf
    · rename_i hc
      have hf : f_ed [.ref a, .int i] h = some r := hf
      have hf0 := hf
      obtain ⟨d0, e2, hf1⟩ := Option.bind_eq_some_iff.mp hf
      obtain ⟨d, hd, hf2⟩ := Option.bind_eq_some_iff.mp hf1
      subst hd
      obtain ⟨v, e3, hf3⟩ := Option.bind_eq_some_iff.mp hf2
      cases hf3
      refine ⟨⟨Nat.le_refl _, rfl⟩, rs_s rfl (rs_s rfl (rs_get rfl rfl rfl rfl (rdI_rd e1) ?_))⟩
      refine rs_call (o := f_oci [.int i, .int s] h) (v := some (.int i)) (h' := h) (t := []) rfl rfl rfl rfl (if_neg hc) ?_
      refine rs_s rfl (rs_s rfl (rs_s rfl ?_))
      exact rs_callV (f := f_ed) (n := 1) (As := [.int i]) (b := a) (t := []) (v := some (va_rf v)) (h' := h) rfl rfl rfl rfl (Nat.le_of_ble_eq_true rfl) rfl rfl (Nat.le_of_ble_eq_true rfl) (xrd_isO (rdI_rd e1)) hf0 (rs_aret rfl rfl rfl rfl rfl)
  · cases hf
theorem run_nl : xRun K_nl T_nl 4 f_nl := by
  intro as h r hf
  unfold f_nl at hf
  split at hf
  · rename_i a g p
    by_cases hc : 0 < a + (if g < p then p else g) ∧ a + (if g < p then p else g) ≤ 2147483639
    · rw [if_pos hc] at hf
      cases hf
      refine ⟨⟨Nat.le_succ _, rfl⟩, rs_s rfl (rs_s rfl (rs_s rfl ?_))⟩
      refine rs_sp (x' := (6, [(0, .int a), (1, .int g), (2, .int p)], [.int (if g < p then p else g), .int a], h)) (g := sp_max) rfl rfl ?_
      refine rs_s rfl (rs_s rfl (rs_s rfl (rs_s rfl ?_)))
      refine rs_icmp (q := 21) rfl rfl rfl rfl (fun w => absurd hc.1 (Int32.not_lt.mpr (xc_ge.mp w))) (fun _ => ?_)
      refine rs_s rfl (rs_sp rfl rfl ?_)
      exact rs_icmp (q := 21) rfl rfl rfl rfl (fun w => absurd hc.2 (Int32.not_le.mpr (xc_gt.mp w))) (fun _ => rs_s rfl (rs_e rfl))
    · rw [if_neg hc] at hf
      cases hf
  · cases hf
theorem xat_psh {h : xH} {k a : Nat} {e : va_E} : xat (xpush h k e) a = if a = xn h then some e else xat h a := by
  unfold xat xpush xn
  dsimp only
  by_cases h1 : a < h.1
  · rw [if_pos h1, if_pos h1, if_neg (by omega)]
  · rw [if_neg h1, if_neg h1]
    by_cases h2 : a = h.1 + h.2.2.length
    · rw [if_pos h2, h2, Nat.add_sub_cancel_left, List.getElem?_append_right (Nat.le_refl _), Nat.sub_self]
      rfl
    · rw [if_neg h2]
      by_cases h3 : a - h.1 < h.2.2.length
      · rw [List.getElem?_append_left h3]
      · rw [List.getElem?_eq_none (by simp; omega), List.getElem?_eq_none (by omega)]
theorem xat_st {h : xH} {a b : Nat} {e e0 : va_E} (h0 : xat h a = some e0) : xat (xset h a e) b = if b = a then some e else xat h b := by
  obtain ⟨h1, h2⟩ := xat_at h0
  have h3 := (List.getElem?_eq_some_iff.mp h2).1
  unfold xat xset
  dsimp only
  by_cases hb : b < h.1
  · rw [if_pos hb, if_pos hb, if_neg (by omega)]
  · rw [if_neg hb, if_neg hb]
    by_cases hab : b = a
    · rw [if_pos hab, hab, List.getElem?_set_self h3]
    · rw [if_neg hab, List.getElem?_set_ne (by omega)]
theorem xH_x {h h' : xH} (h1 : h.1 = h'.1) (h2 : h.2.1 = h'.2.1) (h3 : ∀ a, xat h a = xat h' a) : h = h' := by
  obtain ⟨b, u, l⟩ := h
  obtain ⟨b', u', l'⟩ := h'
  dsimp only at h1 h2
  subst h1 h2
  have : l = l' := by
    refine List.ext_getElem? fun i => ?_
    have q := h3 (b + i)
    unfold xat at q
    dsimp only at q
    rw [if_neg (by omega), if_neg (by omega), Nat.add_sub_cancel_left] at q
    exact q
  rw [this]
theorem xaq_obs {e : va_E} {n : Nat} {f : Nat → Option Nat} (h : xaq e = some (4, n, f)) : e = xobs f n := by
  unfold xaq at h
  split at h
  · split at h
    · cases h
      rfl
    · cases h
  · cases h
theorem xaq_xobs (f : Nat → Option Nat) (n : Nat) : xaq (xobs f n) = some (4, n, f) := rfl
theorem i32_of {n : Nat} : Int32.ofNat n = nI n := rfl
theorem xcaps_psh {h : xH} {k n : Nat} {e : va_E} {f : Nat → Option Nat} (hc : xcaps h n f = true) : xcaps (xpush h k e) n f = true := by
  unfold xcaps at hc ⊢
  rw [List.all_eq_true] at hc ⊢
  intro j hj
  have := hc j hj
  cases hf : f j with
  | none => rfl
  | some y =>
    rw [hf] at this
    dsimp only at this ⊢
    unfold xisO at this ⊢
    cases hx : xat h y with
    | none => rw [hx] at this; cases this
    | some e0 =>
      rw [xat_psh, if_neg (fun w => by have := xat_lt hx; omega), hx]
      rw [hx] at this
      exact this
theorem run_co3 (z : xzs) : xRun K_co3 (T_co3 z) 4 (f_co3 z) := by
  intro as h r hf
  unfold f_co3 at hf
  split at hf
  · rename_i d n mi
    split at hf
    · rename_i hmi
      subst hmi
      obtain ⟨h', e1, hf1⟩ := Option.bind_eq_some_iff.mp hf
      cases hf1
      unfold xlong at e1
      obtain ⟨e, ea, e2⟩ := Option.bind_eq_some_iff.mp e1
      obtain ⟨⟨c, len, f⟩, eb, e3⟩ := Option.bind_eq_some_iff.mp e2
      dsimp only at e3
      split at e3
      · rename_i hc
        obtain ⟨rfl, hn0, hle, h1, hcp⟩ := hc
        cases e3
        have hee := xaq_obs eb
        subst hee
        refine ⟨⟨Nat.le_succ _, rfl⟩, rs_s (x' := (1, [(0, .ref d), (1, .int n), (2, .ref z.2.2.2)], [.ref z.2.2.2], h)) rfl ?_⟩
        refine rs_sp (x' := (3, [(0, .ref d), (1, .int n), (2, .ref z.2.2.2)], [.ref z.2.2.2, .ref z.2.2.2], h)) rfl rfl ?_
        refine rs_s (x' := (6, [(0, .ref d), (1, .int n), (2, .ref z.2.2.2)], [], h)) (xstep_am rfl rfl rfl ?_) ?_
        · show (if some z.2.2.2 = some z.2.2.2 then _ else _) = _
          rw [if_pos rfl]
        refine rs_s (x' := (7, [(0, .ref d), (1, .int n), (2, .ref z.2.2.2)], [.int n], h)) rfl ?_
        refine rs_newQ rfl rfl rfl rfl (fun w => w.elim hn0 (fun w => Nat.not_lt.mpr h1 w)) ?_
        generalize hN : n.toNatClampNeg = N at *
        generalize hh1 : xpush h N (xobs (fun _ => none) N) = h1'
        have hpd : xat h1' d = some (xobs f len) := by
          rw [← hh1, xat_psh, if_neg (fun w => by have := xat_lt ea; omega), ea]
        have hpn : xat h1' (xn h) = some (xobs (fun _ => none) N) := by rw [← hh1, xat_psh, if_pos rfl]
        have hlen : (nI len).toNatClampNeg = len := nI_clamp (by omega)
        have hnn : nI N = n := by
          obtain ⟨j, hj, rfl⟩ := nI_of hn0
          rw [← hN, nI_clamp hj]
        show xrE _ _ (10, [(0, .ref d), (1, .int n), (2, .ref z.2.2.2)], [.ref (xn h)], h1') _
        refine rs_s (x' := (24, [(0, .ref d), (1, .int n), (2, .ref z.2.2.2)], [.ref (xn h)], h1')) rfl ?_
        refine rs_s (x' := (25, [(0, .ref d), (1, .int n), (2, .ref z.2.2.2), (3, .ref (xn h))], [], h1')) rfl ?_
        refine rs_s (x' := (26, [(0, .ref d), (1, .int n), (2, .ref z.2.2.2), (3, .ref (xn h))], [.ref d], h1')) rfl ?_
        refine rs_s (x' := (27, [(0, .ref d), (1, .int n), (2, .ref z.2.2.2), (3, .ref (xn h))], [.int 0, .ref d], h1')) rfl ?_
        refine rs_s (x' := (28, [(0, .ref d), (1, .int n), (2, .ref z.2.2.2), (3, .ref (xn h))], [.ref (xn h), .int 0, .ref d], h1')) rfl ?_
        refine rs_s (x' := (29, [(0, .ref d), (1, .int n), (2, .ref z.2.2.2), (3, .ref (xn h))], [.int 0, .ref (xn h), .int 0, .ref d], h1')) rfl ?_
        refine rs_s (x' := (30, [(0, .ref d), (1, .int n), (2, .ref z.2.2.2), (3, .ref (xn h))], [.ref d, .int 0, .ref (xn h), .int 0, .ref d], h1')) rfl ?_
        refine rs_alen (n := len) rfl rfl rfl (by unfold xalen; rw [hpd]; rfl) ?_
        refine rs_s (x' := (32, [(0, .ref d), (1, .int n), (2, .ref z.2.2.2), (3, .ref (xn h))], [.int n, .int (nI len), .int 0, .ref (xn h), .int 0, .ref d], h1')) rfl ?_
        refine rs_sp (x' := (35, [(0, .ref d), (1, .int n), (2, .ref z.2.2.2), (3, .ref (xn h))], [.int (if n < nI len then n else nI len), .int 0, .ref (xn h), .int 0, .ref d], h1')) (g := sp_min) rfl rfl ?_
        rw [if_neg (show ¬ n < nI len by rw [← hnn]; exact nI_nlt (by omega) (by omega))]
        refine rs_sp (x' := (38, [(0, .ref d), (1, .int n), (2, .ref z.2.2.2), (3, .ref (xn h))], [], xset h1' (xn h) (xobs (va_cpy f (fun _ => none) 0 0 len) N))) (g := sp_copy) rfl ?_ ?_
        · have hsp : spC h1' d 0 (xn h) 0 (nI len) = some (xset h1' (xn h) (xobs (va_cpy f (fun _ => none) 0 0 len) N)) := by
            unfold spC
            rw [hpd, Option.bind_some, xaq_xobs, Option.bind_some, hpn, Option.bind_some, xaq_xobs, Option.bind_some]
            dsimp only
            rw [if_pos]
            · rw [hlen]; rfl
            · refine ⟨⟨rfl, rfl⟩, by decide, by decide, nI_pos (by omega), ?_, ?_, ?_⟩
              · rw [hlen]; show 0 + len ≤ len; omega
              · rw [hlen]; show 0 + len ≤ N; omega
              · rw [hlen, ← hh1]; show xcaps _ (0 + len) f = true; rw [Nat.zero_add]; exact xcaps_psh hcp
          show (spC h1' d 0 (xn h) 0 (nI len)).bind _ = _
          rw [hsp]
          rfl
        · refine rs_s (x' := (39, [(0, .ref d), (1, .int n), (2, .ref z.2.2.2), (3, .ref (xn h))], [.ref (xn h)], xset h1' (xn h) (xobs (va_cpy f (fun _ => none) 0 0 len) N))) rfl ?_
          have : xset h1' (xn h) (xobs (va_cpy f (fun _ => none) 0 0 len) N) = xpush h N (xobs (va_cpy f (fun _ => none) 0 0 len) N) := by
            refine xH_x (by rw [← hh1]; rfl) (by rw [← hh1]; rfl) fun a => ?_
            rw [xat_st hpn, ← hh1, xat_psh, xat_psh]
            split <;> rfl
          rw [this]
          exact rs_aret (v := some (xn h)) rfl rfl rfl rfl rfl
      · cases e3
    · cases hf
  · cases hf
