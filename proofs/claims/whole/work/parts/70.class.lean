/-! The class: the list grows. -/
section KG
variable {z : xzs} {W : kW} {h : xH} {c : mS}
theorem xH_ext {h h' : xH} (h1 : h.1 = h'.1) (h2 : h.2.1 = h'.2.1) (h3 : ∀ a, xat h a = xat h' a) : h = h' := by
  obtain ⟨b, u, l⟩ := h
  obtain ⟨b', u', l'⟩ := h'
  dsimp only at h1 h2
  subst h1 h2
  have : l = l' := by
    refine List.ext_getElem? fun i => ?_
    have q := h3 (b + i)
    unfold xat at q
    dsimp only at q
    rw [if_neg (by omega), if_neg (by omega), Nat.add_sub_cancel_left] at q
    exact q
  rw [this]
theorem xat_k (W : kW) (h : xH) (c : mS) (a : Nat) : xat (kPut W h c) a = (xat h a).map (fun e => (kA W a).elim e (kCell W c)) := by
  show (if a < h.1 then none else (h.2.2.mapIdx _)[a - h.1]?) = Option.map _ (if a < h.1 then none else h.2.2[a - h.1]?)
  by_cases q : a < h.1
  · rw [if_pos q, if_pos q]
    rfl
  · rw [if_neg q, if_neg q, List.getElem?_mapIdx, show h.1 + (a - h.1) = a by omega]
theorem xat_in {h : xH} {a : Nat} (h1 : h.1 ≤ a) (h2 : a < xn h) : ∃ e, xat h a = some e := by
  unfold xn at h2
  unfold xat
  rw [if_neg (by omega), List.getElem?_eq_getElem (by omega)]
  exact ⟨_, rfl⟩
theorem xn_set (h : xH) (a : Nat) (e : va_E) : xn (xset h a e) = xn h := by
  show h.1 + (h.2.2.set _ _).length = _
  rw [List.length_set]
  rfl
theorem xobs_k (f : Nat → Option Nat) (n : Nat) : xobs f n = kQ n f 4 := rfl
theorem t_A_add (ok : kOk W h) (hz : z.1 < h.1) {n j : Nat} (hl : kLs W c n) (hn : n < 1200) (h1 : 1 ≤ j) (h2 : j ≤ kC W) (h3 : j < 2 ^ 31) : ∃ W' h', f_A_add z [.ref (kg W 0 2), .ref (kg W 1 j)] (kPut W h c) = some (.inl (some (.int 1)), kPut W' h' (kLadd c n j)) ∧ kFr 1 2000 W h W' h' ∧ (∀ f i, ¬ (f = 0 ∧ i = 3) → kg W' f i = kg W f i) ∧ kT W' = kT W ∧ kC W' = kC W ∧ n + 1 ≤ kcap W' ∧ 2 ≤ kcap W' ∧ (kcap W' = kcap W ∨ kcap W' ≤ 1800) := by
  obtain ⟨l1, l2, l3, l4, l5, l6⟩ := hl
  have hd := ok.1 0 3 (kDom0 (by decide))
  have q3 := xat_kPut (c := c) ok (kDom0 (W := W) (j := 3) (by decide))
  have q3 : xat (kPut W h c) (kg W 0 3) = some (kQ (kcap W) (fun i => kRC W (c 70 i)) 4) := q3
  have es : nI n + 1 = nI (n + 1) := nI_1 n
  have hE : f_A_add z [.ref (kg W 0 2), .ref (kg W 1 j)] (kPut W h c) = (if n < kcap W then some (.inl (some (.int 1)), xlset (xset (kPut W h c) (kg W 0 3) (xobs (va_up (fun i => kRC W (c 70 i)) n (some (kg W 1 j))) (kcap W))) (kg W 0 2) (kg W 0 3) (c 72 0 + 1) (c 71 0 + 1))
      else some (.inl (some (.int 1)), xlset (xpush (kPut W h c) (kcap W + kcap W / 2) (xobs (va_up (va_cpy (fun i => kRC W (c 70 i)) (fun _ => none) 0 0 (kcap W)) (kcap W) (some (kg W 1 j))) (kcap W + kcap W / 2))) (kg W 0 2) (xn (kPut W h c)) (c 72 0 + 1) (c 71 0 + 1))) := by
    show ((xisO (kPut W h c) (kg W 1 j) 1).bind fun _ => (xlist (kPut W h c) (kg W 0 2)).bind fun q => _) = _
    rw [kisC ok h1 h2, Option.bind_some, kr_lst ok, Option.bind_some, if_neg (show ¬ kg W 0 3 = z.1 by omega)]
    show ((xat (kPut W h c) (kg W 0 3)).bind fun ed => _) = _
    rw [q3, Option.bind_some, xaq_kQ rfl, Option.bind_some]
    have hc : vN (c 71 0) = n := by rw [l1]; exact vN_nI (by omega)
    have hc : (c 71 0).toNatClampNeg = n := hc
    show (if 4 = 4 ∧ ¬ c 71 0 < 0 ∧ kcap W ≤ 40000 ∧ 2 ≤ kcap W then (if (c 71 0).toNatClampNeg < kcap W then _ else if (c 71 0).toNatClampNeg = kcap W then _ else _) else _) = _
    rw [if_pos ⟨rfl, by rw [l1]; exact nI_pos (by omega), l4, l3⟩, hc]
    by_cases q : n < kcap W
    · rw [if_pos q, if_pos q]
    · rw [if_neg q, if_neg q, if_pos (by omega)]
      refine if_pos ?_
      unfold xcaps
      rw [List.all_eq_true]
      intro u hu
      have hu : u < kcap W := List.mem_range.mp hu
      obtain ⟨⟨p1, p2⟩, p3⟩ := l5 u (by omega)
      show (match kRC W (c 70 u) with | some y => (xisO (kPut W h c) y 1).isSome | none => true) = true
      have hb : vN (c 70 u) < 2 ^ 31 := by
        have := Int32.toInt_lt (c 70 u)
        show (c 70 u).toInt.toNat < 2 ^ 31
        omega
      rw [p1, kRC_n p3 hb]
      show (xisO (kPut W h c) (kg W 1 (vN (c 70 u))) 1).isSome = true
      rw [kisC ok p3 (by omega)]
      rfl
  rw [hE]
  by_cases q : n < kcap W
  · refine ⟨W, h, ?_, kFr.mono (kFr.rf ok) (by decide) (by decide), fun _ _ _ => rfl, rfl, rfl, q, l3, Or.inl rfl⟩
    rw [if_pos q]
    have e : xobs (va_up (fun i => kRC W (c 70 i)) n (some (kg W 1 j))) (kcap W) = kCell W (sS c 70 n (nI j)) (0, 3) := by
      rw [xobs_k]
      show _ = kQ (kcap W) (fun i => kRC W (sS c 70 n (nI j) 70 i)) 4
      congr 1
      funext u
      show (if u = n then _ else _) = kRC W (if 70 = 70 ∧ u = n then nI j else c 70 u)
      by_cases w : u = n
      · rw [if_pos w, if_pos ⟨rfl, w⟩, kRC_n h1 h3]
      · rw [if_neg w, if_neg (fun r => w r.2)]
    rw [e, kPut_set ok (kDom0 (by decide)) (ke_lst _), k_lset ok]
    rfl
  · have hcap : kcap W = n := by omega
    rw [if_neg q]
    have hd2 := ok.1 0 2 (kDom0 (by decide))
    have hne : kg W 0 2 ≠ kg W 0 3 := fun w => by have := (ok.inj (kDom0 (by decide)) (kDom0 (by decide)) w).2; omega
    refine ⟨wD W (xn h) (kcap W + kcap W / 2), xpush (xset h (kg W 0 3) (kCell W c (0, 3))) (kcap W + kcap W / 2) (xobs (va_up (va_cpy (fun i => kRC W (c 70 i)) (fun _ => none) 0 0 (kcap W)) (kcap W) (some (kg W 1 j))) (kcap W + kcap W / 2)), ?_, ⟨⟨fun f i D => ?_, fun a d e => ?_⟩, rfl, by rw [xn_push, xn_set]; omega, by rw [xn_push, xn_set]; omega, ?_, fun a ha e => ?_⟩, fun f i w => if_neg w, rfl, rfl, by show n + 1 ≤ kcap W + kcap W / 2; omega, by show 2 ≤ kcap W + kcap W / 2; omega, Or.inr (by show kcap W + kcap W / 2 ≤ 1800; omega)⟩
    · congr 2
      refine xH_ext rfl rfl fun a => ?_
      obtain ⟨x2, ex2⟩ := xat_in hd2.2.1 hd2.2.2
      have b2 : xat (xpush (kPut W h c) (kcap W + kcap W / 2) (xobs (va_up (va_cpy (fun i => kRC W (c 70 i)) (fun _ => none) 0 0 (kcap W)) (kcap W) (some (kg W 1 j))) (kcap W + kcap W / 2))) (kg W 0 2) = some (kCell W c (0, 2)) := by
        rw [xat_push, kPut_n, if_neg (by omega), xat_kPut ok (kDom0 (by decide))]
      unfold xlset
      rw [xat_set b2, xat_push, kPut_n, xat_k (wD _ _ _), xat_push, xn_set]
      obtain ⟨x3, ex3⟩ := xat_in hd.2.1 hd.2.2
      rw [xat_set ex3, wD_A]
      by_cases a1 : a = xn h
      · subst a1
        rw [if_neg (show ¬ xn h = kg W 0 2 by omega), if_pos rfl, if_pos rfl, if_pos rfl, Option.map_some, Option.elim_some]
        congr 1
        rw [xobs_k]
        show _ = kQ (kcap W + kcap W / 2) (fun i => kRC (wD W (xn h) _) (kLadd c n j 70 i)) 4
        congr 1
        funext u
        have g1 : ∀ j, kg (wD W (xn h) (kcap W + kcap W / 2)) 1 j = kg W 1 j := fun j => by rw [wD_g, if_neg (by omega)]
        have rc : ∀ x, kRC (wD W (xn h) (kcap W + kcap W / 2)) x = kRC W x := fun x => by unfold kRC; rw [g1]
        rw [rc]
        have ev : kLadd c n j 70 u = if u = n then nI j else c 70 u := by
          simp only [kLadd, sS_app, Nat.reduceEqDiff, false_and, true_and, ↓reduceIte]
        rw [ev]
        show (if u = kcap W then some (kg W 1 j) else va_cpy (fun i => kRC W (c 70 i)) (fun _ => none) 0 0 (kcap W) u) = _
        rw [hcap]
        by_cases u1 : u = n
        · rw [if_pos u1, if_pos u1, kRC_n h1 h3]
        · rw [if_neg u1, if_neg u1]
          by_cases u2 : u < n
          · rw [pk_cpy_in (Nat.zero_le _) (by omega), Nat.zero_add, Nat.sub_zero]
          · rw [pk_cpy_out (Or.inr (by omega)), l6 u (by omega), kRC_0]
      · by_cases a2 : a = kg W 0 3
        · subst a2
          rw [if_neg (fun w => hne w.symm), if_neg a1, if_neg a1, if_pos rfl, if_neg a1, if_pos rfl, Option.map_some, Option.elim_none, xat_kPut ok (kDom0 (by decide))]
        · by_cases a3 : a = kg W 0 2
          · subst a3
            rw [if_pos rfl, if_neg a1, if_neg a2, if_neg a1, if_neg a2, ex2, Option.map_some, hd2.1, Option.elim_some]
            simp only [kCell, kc0, kLadd, sS_app, Nat.reduceEqDiff, false_and, and_self, ↓reduceIte, wD_g]
          · rw [if_neg a3, if_neg a1, if_neg a1, if_neg a2, if_neg a1, if_neg a2, xat_k]
            cases e0 : xat h a with
            | none => rw [Option.map_none, Option.map_none]
            | some x =>
              rw [Option.map_some, Option.map_some]
              cases e1 : kA W a with
              | none => rw [Option.elim_none, Option.elim_none]
              | some d =>
                rw [Option.elim_some, Option.elim_some]
                have e2 := (ok.2 _ _ e1).2
                rw [wD_cell d (fun w => a3 (by rw [w] at e2; exact e2.symm)) (fun w => a2 (by rw [w] at e2; exact e2.symm))]
                unfold kLadd
                rw [ke_siz _ _ d (fun w => a3 (by rw [w] at e2; exact e2.symm)), ke_lst _ d (fun w => a2 (by rw [w] at e2; exact e2.symm))]
    · have D : kDom W f i := D
      obtain ⟨r1, r2, r3⟩ := ok.1 f i D
      rw [wD_g, xn_push, xn_set]
      by_cases w : f = 0 ∧ i = 3
      · rw [if_pos w, wD_A, if_pos rfl, w.1, w.2]
        exact ⟨rfl, by show h.1 ≤ xn h; unfold xn; omega, by omega⟩
      · rw [if_neg w, wD_A, if_neg (by omega), if_neg (fun y => w (ok.inj D (kDom0 (by decide)) y))]
        exact ⟨r1, r2, by omega⟩
    · rw [wD_A] at e
      by_cases a1 : a = xn h
      · rw [if_pos a1] at e
        cases e
        exact ⟨kDom0 (by decide), by rw [wD_g, if_pos ⟨rfl, rfl⟩, a1]⟩
      · rw [if_neg a1] at e
        by_cases a2 : a = kg W 0 3
        · rw [if_pos a2] at e
          cases e
        · rw [if_neg a2] at e
          obtain ⟨r1, r2⟩ := ok.2 _ _ e
          exact ⟨r1, by rw [wD_g, if_neg (fun y => a2 (by rw [← r2, y.1, y.2]))]; exact r2⟩
    · show h.2.1 + (kcap W + kcap W / 2) ≤ h.2.1 + 2000
      omega
    · have a2 : ¬ a = kg W 0 3 := fun y => by rw [y, hd.1] at e; cases e
      obtain ⟨x3, ex3⟩ := xat_in hd.2.1 hd.2.2
      rw [wD_A, if_neg (by omega), if_neg a2, xat_push, xn_set, if_neg (by omega), xat_set ex3, if_neg a2]
      exact ⟨e, rfl⟩
end KG
