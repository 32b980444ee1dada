theorem xwr_7 {h : xH} {a k : Nat} {fs : List Value} {v : Value} (h0 : xat h a = some (.inr (7, fs))) (hk : k < fs.length) : xwr h a 7 k v = some (xset h a (.inr (7, fs.set k v))) := by
  unfold xwr
  rw [h0, Option.bind_some]
  show (if 7 = 7 then some fs else none).bind _ = _
  rw [if_pos rfl, Option.bind_some, if_pos hk]
theorem xrd_7 {h : xH} {a k : Nat} {fs : List Value} {v : Value} (h0 : xat h a = some (.inr (7, fs))) (hk : fs[k]? = some v) : xrd h a 7 k = some v := by
  unfold xrd
  rw [h0, Option.bind_some]
  show (if 7 = 7 then some fs else none).bind _ = _
  rw [if_pos rfl, Option.bind_some, hk]
theorem xisO_1 {h : xH} {e : Nat} (hO : xisO h e 1 = some ()) : ∃ fs, xat h e = some (.inr (1, fs)) := by
  unfold xisO at hO
  obtain ⟨c, e1, hO⟩ := Option.bind_eq_some_iff.mp hO
  obtain ⟨fs, e2, hO⟩ := Option.bind_eq_some_iff.mp hO
  refine ⟨fs, ?_⟩
  rw [e1]
  unfold xob at e2
  split at e2
  · split at e2
    · rename_i hc
      cases e2
      rw [hc]
    · cases e2
  · cases e2
theorem xisO_i {h : xH} {e ci : Nat} {fs : List Value} (h0 : xat h e = some (.inr (ci, fs))) : xisO h e ci = some () := by
  unfold xisO
  rw [h0, Option.bind_some]
  show (if ci = ci then some fs else none).bind _ = _
  rw [if_pos rfl]
  rfl
theorem xset_n' (h : xH) (a : Nat) (e : va_E) : xn (xset h a e) = xn h := by
  show h.1 + (h.2.2.set _ _).length = _
  rw [List.length_set]
  rfl
theorem xix_at {i : Int32} {n : Nat} (h0 : ¬ i < 0) (h1 : i.toNatClampNeg < n) : xix i n = some i.toNatClampNeg := by
  unfold xix
  rw [if_neg]
  rintro (w | w)
  · exact h0 w
  · omega
theorem spQ_at {h : xH} {a n v : Nat} {i : Int32} {f : Nat → Option Nat} {vs : List Value} (h0 : xat h a = some (xobs f n)) (hi : ¬ i < 0) (hn : i.toNatClampNeg < n) (hv : xat h v = some (.inr (1, vs))) : spQ h a i v = some (xset h a (xobs (va_up f i.toNatClampNeg (some v)) n)) := by
  unfold spQ
  rw [h0, Option.bind_some, xaq_xobs, Option.bind_some]
  dsimp only
  rw [xix_at hi hn, Option.bind_some, xisO_i hv, Option.bind_some, if_pos rfl]
theorem xputs_at {h : xH} {a d e n : Nat} {s : Int32} {f : Nat → Option Nat} {vs : List Value} {m : Value} {x : Value} (ha : xat h a = some (.inr (7, [x, m, .int s]))) (h0 : xat h d = some (xobs f n)) (hi : ¬ s < 0) (hn : s.toNatClampNeg < n) (hv : xat h e = some (.inr (1, vs))) :
    xputs h a d e s = some (.inl none, xset (xset h d (xobs (va_up f s.toNatClampNeg (some e)) n)) a (.inr (7, [x, m, .int (s + 1)]))) := by
  have hda : a ≠ d := fun w => by rw [w, h0] at ha; cases ha
  unfold xputs
  rw [spQ_at h0 hi hn hv, Option.bind_some, xwr_7 (fs := [x, m, .int s]) (by rw [xat_st h0, if_neg hda]; exact ha) (Nat.le_of_ble_eq_true rfl)]
  rfl
theorem f_add3_eq {z : xzs} {a e d : Nat} {m s : Int32} {h : xH} {r : xR} (hf : f_A_add z [.ref a, .ref e] h = some r) (hq : xlist h a = some (d, m, s)) : r.1 = .inl (some (.int 1)) ∧ f_add3 z [.ref a, .ref e, .ref d, .int s] (xset h a (.inr (7, [.ref d, .int (m + 1), .int s]))) = some (.inl none, r.2) := by
  have hf : ((xisO h e 1).bind fun _ => (xlist h a).bind fun q => _) = some r := hf
  obtain ⟨⟨⟩, he, hf1⟩ := Option.bind_eq_some_iff.mp hf
  obtain ⟨vs, hv⟩ := xisO_1 he
  rw [hq, Option.bind_some] at hf1
  dsimp only at hf1
  have ha := xlist_at hq
  dsimp only at ha
  have hea : e ≠ a := fun w => by rw [w, ha] at hv; cases hv
  have han := xat_lt ha
  have hen := xat_lt hv
  generalize hh1 : xset h a (.inr (7, [.ref d, .int (m + 1), .int s])) = h1
  have ha1 : xat h1 a = some (.inr (7, [.ref d, .int (m + 1), .int s])) := by rw [← hh1, xat_st ha, if_pos rfl]
  have hv1 : xat h1 e = some (.inr (1, vs)) := by rw [← hh1, xat_st ha, if_neg hea, hv]
  have hn1 : xn h1 = xn h := by rw [← hh1, xset_n']
  have ho1 : ∀ b, b ≠ a → xat h1 b = xat h b := fun b hb => by rw [← hh1, xat_st ha, if_neg hb]
  have hb1 : h1.1 = h.1 ∧ h1.2.1 = h.2.1 := by rw [← hh1]; exact ⟨rfl, rfl⟩
  have hgr : ∀ {r}, f_gr1 z [.ref a, .int (s + 1)] h1 = some r → f_gr0 z [.ref a] h1 = some r := fun {r} w => by
    show (rdI h1 a 7 2).bind _ = _
    unfold rdI
    rw [xrd_7 ha1 (k := 2) rfl]
    exact w
  have hrd : rdR h1 a 7 0 = some (some d) := by
    unfold rdR
    rw [xrd_7 ha1 (k := 0) rfl]
    rfl
  have key : ∀ {n : Nat} {k : Nat} {f : Nat → Option Nat} {rr : xR} {h2 : xH}, (if d = z.1 then some 0 else xalen h1 d) = some n → s = Int32.ofNat n → ¬ s < 0 → s.toNatClampNeg < k → f_gr1 z [.ref a, .int (s + 1)] h1 = some (.inl (some (.ref (xn h))), xset (xpush h1 k (xobs f k)) a (.inr (7, [.ref (xn h), .int (m + 1), .int s]))) → 
      f_add3 z [.ref a, .ref e, .ref d, .int s] h1 = some (.inl none, xlset (xpush h k (xobs (va_up f s.toNatClampNeg (some e)) k)) a (xn h) (m + 1) (s + 1)) := by
    intro n k f rr h2 hal hs hs0 hk hg
    show ((if d = z.1 then some 0 else xalen h1 d).bind fun n => if s = Int32.ofNat n then (xisO h1 a 7).bind fun _ => (f_gr0 z [.ref a] h1).bind fun r => _ else _) = _
    rw [hal, Option.bind_some, if_pos hs, xisO_i ha1, Option.bind_some, hgr hg, Option.bind_some]
    have hpa : xat (xpush h1 k (xobs f k)) a = some (.inr (7, [.ref d, .int (m + 1), .int s])) := by rw [xat_psh, if_neg (by omega), ha1]
    show xputs (xset (xpush h1 k (xobs f k)) a (.inr (7, [.ref (xn h), .int (m + 1), .int s]))) a (xn h) e s = _
    have hpd : xat (xset (xpush h1 k (xobs f k)) a (.inr (7, [.ref (xn h), .int (m + 1), .int s]))) (xn h) = some (xobs f k) := by rw [xat_st hpa, if_neg (by omega), xat_psh, if_pos hn1.symm]
    have hpa2 : xat (xset (xpush h1 k (xobs f k)) a (.inr (7, [.ref (xn h), .int (m + 1), .int s]))) a = some (.inr (7, [.ref (xn h), .int (m + 1), .int s])) := by rw [xat_st hpa, if_pos rfl]
    rw [xputs_at hpa2 hpd hs0 hk (by rw [xat_st hpa, if_neg hea, xat_psh, if_neg (by omega), hv1])]
    congr 2
    refine xH_x hb1.1 (by show h1.2.1 + k = h.2.1 + k; rw [hb1.2]) fun b => ?_
    unfold xlset
    rw [xat_st (h := xset _ _ _) (e0 := .inr (7, [.ref (xn h), .int (m + 1), .int s])) (by rw [xat_st hpd, if_neg (by omega), hpa2]), xat_st (h := xpush h k _) (e0 := .inr (7, [.ref d, .int m, .int s])) (by rw [xat_psh, if_neg (by omega), ha])]
    by_cases hba : b = a
    · rw [if_pos hba, if_pos hba]
    · rw [if_neg hba, if_neg hba, xat_st hpd, xat_psh]
      by_cases hbn : b = xn h
      · rw [if_pos hbn, if_pos hbn]
      · rw [if_neg hbn, if_neg hbn, xat_st hpa, if_neg hba, xat_psh, if_neg (by omega), ho1 b hba]
  by_cases hdz : d = z.1
  · rw [if_pos hdz] at hf1
    split at hf1
    · rename_i hs
      subst hs
      cases hf1
      refine ⟨rfl, ?_⟩
      refine key (n := 0) (k := 10) (f := fun _ => none) (rr := (.inl none, h)) (h2 := h) (if_pos hdz) rfl (by decide) (by decide) ?_
      show (rdR h1 a 7 0).bind _ = _
      rw [hrd, Option.bind_some, Option.bind_some, if_pos hdz, if_pos (show (0 : Int32) + 1 = 1 by decide), xwr_7 (fs := [.ref d, .int (m + 1), .int 0]) (by rw [xat_psh, if_neg (by omega), ha1]) (Nat.le_of_ble_eq_true rfl), Option.bind_some, hn1]
      rfl
    · cases hf1
  · rw [if_neg hdz] at hf1
    obtain ⟨ed, hed, hf2⟩ := Option.bind_eq_some_iff.mp hf1
    obtain ⟨⟨c, n, f⟩, eb, hf3⟩ := Option.bind_eq_some_iff.mp hf2
    dsimp only at hf3
    split at hf3
    · rename_i hc
      obtain ⟨rfl, hs0, h4, h2⟩ := hc
      have hee := xaq_obs eb
      subst hee
      have hda : d ≠ a := fun w => by rw [w, ha] at hed; cases hed
      have hed1 : xat h1 d = some (xobs f n) := by rw [ho1 d hda, hed]
      have hal : xalen h1 d = some n := by unfold xalen; rw [hed1]; rfl
      obtain ⟨k, hk, rfl⟩ := nI_of hs0
      rw [nI_clamp hk] at hf3
      split at hf3
      · rename_i hlt
        cases hf3
        refine ⟨rfl, ?_⟩
        show ((if d = z.1 then some 0 else xalen h1 d).bind fun n => if nI k = Int32.ofNat n then _ else xputs h1 a d e (nI k)) = _
        rw [if_neg hdz, hal, Option.bind_some, if_neg (show ¬ nI k = Int32.ofNat n from fun w => by have w : nI k = nI n := w; rw [nI_eq hk (by omega)] at w; omega), xputs_at ha1 hed1 hs0 (by rw [nI_clamp hk]; exact hlt) hv1, nI_clamp hk]
        congr 2
        refine xH_x hb1.1 hb1.2 fun b => ?_
        unfold xlset
        rw [xat_st (h := xset h1 d _) (e0 := .inr (7, [.ref d, .int (m + 1), .int (nI k)])) (by rw [xat_st hed1, if_neg (Ne.symm hda), ha1]), xat_st (h := xset h d _) (e0 := .inr (7, [.ref d, .int m, .int (nI k)])) (by rw [xat_st hed, if_neg (Ne.symm hda), ha])]
        by_cases hba : b = a
        · rw [if_pos hba, if_pos hba]
        · rw [if_neg hba, if_neg hba, xat_st hed1, xat_st hed]
          by_cases hbd : b = d
          · rw [if_pos hbd, if_pos hbd]
          · rw [if_neg hbd, if_neg hbd, ho1 b hba]
      · split at hf3
        · rename_i hkn
          subst hkn
          split at hf3
          · rename_i hcp
            cases hf3
            refine ⟨rfl, ?_⟩
            have hcp1 : xcaps h1 k f = true := by
              unfold xcaps at hcp ⊢
              rw [List.all_eq_true] at hcp ⊢
              intro j hj
              have hj := hcp j hj
              cases hfj : f j with
              | none => rfl
              | some y =>
                rw [hfj] at hj
                dsimp only at hj ⊢
                cases hO : xisO h y 1 with
                | none => rw [hO] at hj; cases hj
                | some u =>
                  obtain ⟨ys, hy⟩ := xisO_1 hO
                  rw [xisO_i (h := h1) (ci := 1) (fs := ys) (by rw [ho1 y (fun w => by rw [w, ha] at hy; cases hy), hy])]
                  rfl
            have hlg : xlong h1 d (nI (k + k / 2)) = some (xpush h1 (k + k / 2) (xobs (va_cpy f (fun _ => none) 0 0 k) (k + k / 2))) := by
              unfold xlong
              rw [hed1, Option.bind_some, xaq_xobs, Option.bind_some]
              dsimp only
              rw [nI_clamp (by omega), if_pos ⟨rfl, nI_pos (by omega), by omega, by omega, hcp1⟩]
            have hk2 : (nI k).toNatClampNeg = k := nI_clamp hk
            have := key (n := k) (k := k + k / 2) (f := va_cpy f (fun _ => none) 0 0 k) (rr := (.inl none, h)) (h2 := h) (by rw [if_neg hdz, hal]) rfl hs0 (by rw [hk2]; omega) (by
              show (rdR h1 a 7 0).bind _ = _
              rw [hrd, Option.bind_some, Option.bind_some, if_neg hdz, hal, Option.bind_some, if_pos ⟨h2, h4, nI_1 k⟩, hlg, Option.bind_some, xwr_7 (fs := [.ref d, .int (m + 1), .int (nI k)]) (by rw [xat_psh, if_neg (by omega), ha1]) (Nat.le_of_ble_eq_true rfl), Option.bind_some, hn1]
              rfl)
            rw [hk2] at this
            exact this
          · cases hf3
        · cases hf3
    · cases hf3
theorem run_A_add (z : xzs) : xRun (K_A_add z) T_A_add 2 (f_A_add z) := by
  intro as h r hf
  have hf0 := hf
  unfold f_A_add at hf
  split at hf
  · rename_i a e
    obtain ⟨_, he, hf1⟩ := Option.bind_eq_some_iff.mp hf
    obtain ⟨⟨d, m, s⟩, hq, -⟩ := Option.bind_eq_some_iff.mp hf1
    obtain ⟨hr, h3⟩ := f_add3_eq hf0 hq
    obtain ⟨r1, h'⟩ := r
    have hr : r1 = .inl (some (.int 1)) := hr
    subst hr
    have ha := xlist_at hq
    dsimp only at ha
    generalize hh1 : xset h a (.inr (7, [.ref d, .int (m + 1), .int s])) = h1 at h3
    have ha1 : xat h1 a = some (.inr (7, [.ref d, .int (m + 1), .int s])) := by rw [← hh1, xat_st ha, if_pos rfl]
    refine ⟨⟨Nat.le_refl _, rfl⟩, rs_s (x' := (1, [(0, .ref a), (1, .ref e)], [.ref a], h)) rfl ?_⟩
    refine rs_s (x' := (2, [(0, .ref a), (1, .ref e)], [.ref a, .ref a], h)) rfl ?_
    refine rs_sp (x' := (5, [(0, .ref a), (1, .ref e)], [.int m, .ref a], h)) (g := sp_get 7 1) rfl (by show (xrd h a 7 1).bind _ = _; rw [xrd_7 ha (k := 1) rfl]; rfl) ?_
    refine rs_s (x' := (6, [(0, .ref a), (1, .ref e)], [.int 1, .int m, .ref a], h)) rfl ?_
    refine rs_s (x' := (7, [(0, .ref a), (1, .ref e)], [.int (m + 1), .ref a], h)) rfl ?_
    refine rs_sp (x' := (10, [(0, .ref a), (1, .ref e)], [], h1)) (g := sp_put 7 1) rfl (by show (xwr h a 7 1 (.int (m + 1))).bind _ = _; rw [xwr_7 ha (Nat.le_of_ble_eq_true rfl), ← hh1]; rfl) ?_
    refine rs_s (x' := (11, [(0, .ref a), (1, .ref e)], [.ref a], h1)) rfl ?_
    refine rs_s (x' := (12, [(0, .ref a), (1, .ref e)], [.ref e, .ref a], h1)) rfl ?_
    refine rs_s (x' := (13, [(0, .ref a), (1, .ref e)], [.ref a, .ref e, .ref a], h1)) rfl ?_
    refine rs_get rfl rfl rfl rfl (xrd_7 ha1 (k := 0) rfl) ?_
    show xrE _ _ (16, [(0, .ref a), (1, .ref e)], [.ref d, .ref e, .ref a], h1) _
    refine rs_s (x' := (17, [(0, .ref a), (1, .ref e)], [.ref a, .ref d, .ref e, .ref a], h1)) rfl ?_
    refine rs_get rfl rfl rfl rfl (xrd_7 ha1 (k := 2) rfl) ?_
    show xrE _ _ (20, [(0, .ref a), (1, .ref e)], [.int s, .ref d, .ref e, .ref a], h1) _
    refine rs_callV (f := f_add3 z) (n := 3) (As := [.ref e, .ref d, .int s]) (b := a) (t := []) (v := none) (h' := h') rfl rfl rfl rfl (Nat.le_of_ble_eq_true rfl) rfl rfl (Nat.le_of_ble_eq_true rfl) (xisO_i ha1) h3 ?_
    exact rs_s rfl (rs_e rfl)
  · cases hf
theorem run_A_remove (z : xzs) : xRun K_A_remove tNo 4 (f_A_remove z) := by
  intro as h r hf
  unfold f_A_remove at hf
  split at hf
  · rename_i a i
    obtain ⟨⟨d, m, s⟩, hq, hf1⟩ := Option.bind_eq_some_iff.mp hf
    dsimp only at hf1
    split at hf1
    · cases hf1
    · rename_i hc
      obtain ⟨ed, hed, hf2⟩ := Option.bind_eq_some_iff.mp hf1
      obtain ⟨⟨c, n, f⟩, eb, hf3⟩ := Option.bind_eq_some_iff.mp hf2
      dsimp only at hf3
      split at hf3
      · rename_i hc2
        obtain ⟨rfl, hsn, hn⟩ := hc2
        split at hf3
        · rename_i hcp
          cases hf3
          have hcp : xcaps h s.toNatClampNeg f = true := hcp
          have hee := xaq_obs eb
          subst hee
          have ha := xlist_at hq
          dsimp only at ha
          have hda : d ≠ a := fun w => by rw [w, ha] at hed; cases hed
          obtain ⟨k, hk, rfl⟩ := nI_of (x := i) (fun w => hc (Or.inl w))
          obtain ⟨j, hj, rfl⟩ := nI_of (x := s) (fun w => hc (Or.inr (Int32.le_trans (Int32.le_of_lt w) (nI_pos' hk))))
          have hkj : k < j := by
            rcases Nat.lt_or_ge k j with w | w
            · exact w
            · exact absurd (Or.inr (nI_le w hk)) hc
          rw [nI_clamp hj] at hsn hcp ⊢
          rw [nI_clamp hk]
          obtain ⟨j, rfl⟩ : ∃ j', j = j' + 1 := ⟨j - 1, by omega⟩
          have hix : ∀ {u : Nat}, u < j + 1 → xix (nI u) n = some u := fun {u} hu => by
            have := xix_at (i := nI u) (n := n) (nI_pos (by omega)) (by rw [nI_clamp (by omega)]; omega)
            rw [nI_clamp (by omega)] at this
            exact this
          have hel : rdQ h d (nI k) = some (f k) := by
            unfold rdQ
            rw [hed, Option.bind_some, xaq_xobs, Option.bind_some]
            dsimp only
            rw [hix hkj]
            rfl
          generalize hh1 : xset h a (.inr (7, [.ref d, .int (m + 1), .int (nI (j + 1))])) = h1
          have ha1 : xat h1 a = some (.inr (7, [.ref d, .int (m + 1), .int (nI (j + 1))])) := by rw [← hh1, xat_st ha, if_pos rfl]
          have ho1 : ∀ b, b ≠ a → xat h1 b = xat h b := fun b hb => by rw [← hh1, xat_st ha, if_neg hb]
          have hb1 : h1.1 = h.1 ∧ h1.2.1 = h.2.1 := by rw [← hh1]; exact ⟨rfl, rfl⟩
          have hed1 : xat h1 d = some (xobs f n) := by rw [ho1 d hda, hed]
          have hcp1 : xcaps h1 (j + 1) f = true := by
            unfold xcaps at hcp ⊢
            rw [List.all_eq_true] at hcp ⊢
            intro j hj
            have hj := hcp j hj
            cases hfj : f j with
            | none => rfl
            | some y =>
              rw [hfj] at hj
              dsimp only at hj ⊢
              cases hO : xisO h y 1 with
              | none => rw [hO] at hj; cases hj
              | some u =>
                obtain ⟨ys, hy⟩ := xisO_1 hO
                rw [xisO_i (h := h1) (ci := 1) (fs := ys) (by rw [ho1 y (fun w => by rw [w, ha] at hy; cases hy), hy])]
                rfl
          have e1 : nI (j + 1) - 1 = nI j := nI_pred j
          -- the copy
          obtain ⟨h2, hcpy, hb2, hd2, ho2⟩ : ∃ h2, (if nI k < nI (j + 1) - 1 then spC h1 d (nI k + 1) d (nI k) (nI (j + 1) - 1 - nI k) else some h1) = some h2 ∧ (h2.1 = h.1 ∧ h2.2.1 = h.2.1) ∧ xat h2 d = some (xobs (va_cpy f f (k + 1) k (j - k)) n) ∧ ∀ b, b ≠ d → xat h2 b = xat h1 b := by
            rw [e1]
            by_cases hkj2 : k < j
            · rw [if_pos (nI_lt hkj2 (by omega))]
              refine ⟨xset h1 d (xobs (va_cpy f f (k + 1) k (j - k)) n), ?_, hb1, by rw [xat_st hed1, if_pos rfl], fun b hb => by rw [xat_st hed1, if_neg hb]⟩
              unfold spC
              rw [hed1, Option.bind_some, xaq_xobs, Option.bind_some, Option.bind_some, xaq_xobs, Option.bind_some, nI_1, pk_sub (by omega)]
              dsimp only
              rw [nI_clamp (by omega), nI_clamp (by omega), nI_clamp (by omega)]
              rw [if_pos ⟨⟨rfl, rfl⟩, nI_pos (by omega), nI_pos (by omega), nI_pos (by omega), by omega, by omega, by rw [show k + 1 + (j - k) = j + 1 by omega]; exact hcp1⟩]
            · rw [if_neg (nI_nlt (by omega) (by omega))]
              refine ⟨h1, rfl, hb1, ?_, fun _ _ => rfl⟩
              rw [hed1, show j - k = 0 by omega]
              congr 2
              funext u
              rw [pk_cpy_out (by omega)]
          have ha2 : xat h2 a = some (.inr (7, [.ref d, .int (m + 1), .int (nI (j + 1))])) := by rw [ho2 a (Ne.symm hda), ha1]
          generalize hh3 : xset h2 a (.inr (7, [.ref d, .int (m + 1), .int (nI j)])) = h3
          have ha3 : ∀ b, xat h3 b = if b = a then some (.inr (7, [.ref d, .int (m + 1), .int (nI j)])) else xat h2 b := fun b => by rw [← hh3, xat_st ha2]
          have hd3 : xat h3 d = some (xobs (va_cpy f f (k + 1) k (j - k)) n) := by rw [ha3, if_neg hda, hd2]
          have hfr : f_fr [.ref a, .ref d, .int (nI k)] h = some (.inl none, xset h3 d (xobs (va_up (va_cpy f f (k + 1) k (j - k)) j none) n)) := by
            show (rdI h a 7 1).bind _ = _
            unfold rdI
            rw [xrd_7 ha (k := 1) rfl]
            have e2 : xwr h a 7 1 (.int (m + 1)) = some h1 := by
              rw [xwr_7 ha (Nat.le_of_ble_eq_true rfl), ← hh1]
              rfl
            show (xwr h a 7 1 (.int (m + 1))).bind _ = _
            rw [e2, Option.bind_some]
            rw [xrd_7 ha1 (k := 2) rfl]
            show (if nI k < nI (j + 1) - 1 then spC h1 d (nI k + 1) d (nI k) (nI (j + 1) - 1 - nI k) else some h1).bind _ = _
            have e3 : xwr h2 a 7 2 (.int (nI j)) = some h3 := by
              rw [xwr_7 ha2 (Nat.le_of_ble_eq_true rfl), ← hh3]
              rfl
            rw [hcpy, Option.bind_some, e1, e3, Option.bind_some]
            unfold wrQ
            rw [hd3, Option.bind_some, xaq_xobs, Option.bind_some]
            dsimp only
            rw [hix (Nat.lt_succ_self j)]
            rfl
          have hfin : xset h3 d (xobs (va_up (va_cpy f f (k + 1) k (j - k)) j none) n) = xlset (xset h d (xobs (va_up (va_cpy f f (k + 1) k (j + 1 - 1 - k)) (j + 1 - 1) none) n)) a d (m + 1) (nI (j + 1) - 1) := by
            rw [show j + 1 - 1 = j by omega, e1]
            refine xH_x (by rw [← hh3]; exact hb2.1) (by rw [← hh3]; exact hb2.2) fun b => ?_
            unfold xlset
            rw [xat_st hd3, xat_st (h := xset h d _) (e0 := .inr (7, [.ref d, .int m, .int (nI (j + 1))])) (by rw [xat_st hed, if_neg (Ne.symm hda), ha]), xat_st hed, ha3]
            by_cases hbd : b = d
            · rw [if_pos hbd, hbd, if_neg hda, if_pos rfl]
            · rw [if_neg hbd]
              by_cases hba : b = a
              · rw [if_pos hba, if_pos hba]
              · rw [if_neg hba, if_neg hba, if_neg hbd, ho2 b hbd, ho1 b hba]
          rw [← hfin]
          refine ⟨⟨Nat.le_add_right 2 2, rfl⟩, rs_s (x' := (1, [(0, .ref a), (1, .int (nI k))], [.int (nI k)], h)) rfl ?_⟩
          refine rs_s (x' := (2, [(0, .ref a), (1, .int (nI k))], [.ref a, .int (nI k)], h)) rfl ?_
          refine rs_get rfl rfl rfl rfl (xrd_7 ha (k := 2) rfl) ?_
          show xrE _ _ (5, [(0, .ref a), (1, .int (nI k))], [.int (nI (j + 1)), .int (nI k)], h) _
          refine rs_call (o := f_oci [.int (nI k), .int (nI (j + 1))] h) (v := some (.int (nI k))) (h' := h) (t := []) rfl rfl rfl rfl (if_neg hc) ?_
          refine rs_s (x' := (9, [(0, .ref a), (1, .int (nI k))], [], h)) rfl ?_
          refine rs_s (x' := (10, [(0, .ref a), (1, .int (nI k))], [.ref a], h)) rfl ?_
          refine rs_get rfl rfl rfl rfl (xrd_7 ha (k := 0) rfl) ?_
          show xrE _ _ (13, [(0, .ref a), (1, .int (nI k))], [.ref d], h) _
          refine rs_s (x' := (14, [(0, .ref a), (1, .int (nI k)), (2, .ref d)], [], h)) rfl ?_
          refine rs_s (x' := (15, [(0, .ref a), (1, .int (nI k)), (2, .ref d)], [.ref d], h)) rfl ?_
          refine rs_s (x' := (16, [(0, .ref a), (1, .int (nI k)), (2, .ref d)], [.int (nI k), .ref d], h)) rfl ?_
          refine rs_aald rfl rfl rfl hel ?_
          show xrE _ _ (17, [(0, .ref a), (1, .int (nI k)), (2, .ref d)], [va_rf (f k)], h) _
          refine rs_s (x' := (18, [(0, .ref a), (1, .int (nI k)), (2, .ref d), (3, va_rf (f k))], [], h)) ?_ ?_
          · refine xstep_am rfl rfl rfl ?_
            show (xpopr [va_rf (f k)]).bind _ = _
            rw [xpopr_rf]
            rfl
          refine rs_s (x' := (19, [(0, .ref a), (1, .int (nI k)), (2, .ref d), (3, va_rf (f k))], [.ref a], h)) rfl ?_
          refine rs_s (x' := (20, [(0, .ref a), (1, .int (nI k)), (2, .ref d), (3, va_rf (f k))], [.ref d, .ref a], h)) rfl ?_
          refine rs_s (x' := (21, [(0, .ref a), (1, .int (nI k)), (2, .ref d), (3, va_rf (f k))], [.int (nI k), .ref d, .ref a], h)) rfl ?_
          refine rs_callV (f := f_fr) (n := 2) (As := [.ref d, .int (nI k)]) (b := a) (t := []) (v := none) (h' := xset h3 d (xobs (va_up (va_cpy f f (k + 1) k (j - k)) j none) n)) rfl rfl rfl rfl (Nat.le_of_ble_eq_true rfl) rfl rfl (Nat.le_of_ble_eq_true rfl) (xisO_i ha) hfr ?_
          refine rs_s (x' := (25, [(0, .ref a), (1, .int (nI k)), (2, .ref d), (3, va_rf (f k))], [va_rf (f k)], xset h3 d (xobs (va_up (va_cpy f f (k + 1) k (j - k)) j none) n))) ?_ ?_
          · refine xstep_am rfl rfl rfl ?_
            show (xrv (va_rf (f k))).bind _ = _
            rw [xrv_rf]
            rfl
          exact rs_aret rfl rfl rfl rfl rfl
        · cases hf3
      · cases hf3
  · cases hf
