/-! The class: a capability is put into a slot, derived. -/
def kPutS (c : mS) (j o i th n : Nat) : mS := kLadd (sS (sS (sS (sS c 64 j (nI (o + 1))) 65 j (nI i)) 14 (8 * o + i) (nI j)) 61 th (c 61 th + 1)) n j
/-- who lived where lives there still -/
def kXt (W W' : kW) : Prop := (∀ f i, ¬ (f = 0 ∧ i = 3) → kDom W f i → kg W' f i = kg W f i) ∧ 2 ≤ kcap W' ∧ (kcap W' = kcap W ∨ kcap W' ≤ 1800)
theorem kXt.rf {W : kW} (h : 2 ≤ kcap W) : kXt W W := ⟨fun _ _ _ _ => rfl, h, Or.inl rfl⟩
theorem kDom_mono {W W' : kW} {f j : Nat} (h1 : kT W ≤ kT W') (h2 : kC W ≤ kC W') (D : kDom W f j) : kDom W' f j := by
  rcases D with ⟨e, hi⟩ | ⟨e, hi, hi2⟩ | ⟨e, hi, hi2⟩ | ⟨e, hi⟩ | ⟨e, hi⟩
  · exact Or.inl ⟨e, hi⟩
  · exact Or.inr (Or.inl ⟨e, hi, by omega⟩)
  · exact Or.inr (Or.inr (Or.inl ⟨e, hi, hi2⟩))
  · exact Or.inr (Or.inr (Or.inr (Or.inl ⟨e, by omega⟩)))
  · exact Or.inr (Or.inr (Or.inr (Or.inr ⟨e, by omega⟩)))
theorem kXt.tr {W W' W2 : kW} (h1 : kT W ≤ kT W') (h2 : kC W ≤ kC W') (p : kXt W W') (q : kXt W' W2) : kXt W W2 := by
  refine ⟨fun f i n D => (q.1 f i n (kDom_mono h1 h2 D)).trans (p.1 f i n D), q.2.1, ?_⟩
  rcases q.2.2 with e | e
  · rw [e]; exact p.2.2
  · exact Or.inr e
section KI
variable {z : xzs} {W : kW} {h : xH} {c : mS}
theorem t_K_put (ok : kOk W h) (hz : z.1 < h.1) {n j o i th : Nat} (hl : kLs W c n) (hn : n < 1200) (h1 : 1 ≤ j) (h2 : j ≤ kC W) (h3 : j < 2 ^ 31) (ho : o < kT W) (hT : kT W ≤ 50) (hk : c 1 o = nI 3) (hi : i < 8) (hth : c 8 j = nI th) (ht : th < kT W) : ∃ W' h', f_K_put z [.ref (kg W 0 0), .ref (kg W 1 j), .ref (kg W 5 o), .int (nI i)] (kPut W h c) = some (.inl none, kPut W' h' (kPutS c j o i th n)) ∧ kFr 1 2000 W h W' h' ∧ kXt W W' ∧ kT W' = kT W ∧ kC W' = kC W ∧ n + 1 ≤ kcap W' := by
  obtain ⟨W', h', e, p1, p2, p3, p4, p5, p6, p7⟩ := t_A_add (z := z) (W := W) (h := h) (c := sS (sS (sS (sS c 64 j (nI (o + 1))) 65 j (nI i)) 14 (8 * o + i) (nI j)) 61 th (c 61 th + 1)) ok hz hl hn h1 h2 h3
  refine ⟨W', h', ?_, p1, ⟨fun f i q _ => p2 f i q, p6, p7⟩, p3, p4, p5⟩
  refine E_K_put z _ (some (kg W 1 j)) (some (kg W 5 o)) _ _ _ ?_
  have et : vN (c 8 j) = th := by rw [hth]; exact vN_nI (by omega)
  have q := t_C_enterSlot (z := z) (c := c) ok ho (by omega) hk hi h1 h2 h3
  have q2 : rdR (kPut W h (sS (sS (sS c 64 j (nI (o + 1))) 65 j (nI i)) 14 (8 * o + i) (nI j))) (kg W 1 j) 1 0 = some (some (kg W 5 th)) := by
    have := kr_thing (c := sS (sS (sS c 64 j (nI (o + 1))) 65 j (nI i)) 14 (8 * o + i) (nI j)) ok h1 h2
    rw [this]
    simp only [sS_app, Nat.reduceEqDiff, false_and, ↓reduceIte, et]
  unfold D_K_put_0
  rw [Option.bind_some, kisC ok h1 h2, Option.bind_some]
  show (xclV (f_C_enterSlot z [.ref (kg W 1 j), .ref (kg W 5 o), .int (nI i)] (kPut W h c)) _) = _
  rw [q, xclV_some, q2, Option.bind_some, Option.bind_some, kr_holders ok ht, Option.bind_some, kw_holders ok ht, Option.bind_some, kr_capabilities ok, Option.bind_some, Option.bind_some, kisA ok, Option.bind_some]
  have e61 : (sS (sS (sS c 64 j (nI (o + 1))) 65 j (nI i)) 14 (8 * o + i) (nI j)) 61 th + Int32.ofInt 1 = c 61 th + 1 := by
    simp only [sS_app, Nat.reduceEqDiff, false_and, ↓reduceIte, ic_1]
  rw [e61, e, xclI_some]
  rfl
def kDerS (c : mS) (n0 th : Nat) (r b p : Int32) (o i n : Nat) : mS := kPutS (cNew c n0 th r b p) n0 o i th n
theorem t_K_putNew (ok : kOk W h) (R : kRf W c) (hz : z.1 < h.1) {n o i th : Nat} {r b p : Int32} (hl : kLs W c n) (hn : n < 1200) (hC : kC W + 1 < 1200) (ho : o < kT W) (hk : c 1 o = nI 3) (hi : i < 8) (ht : th < kT W) (hp : vN p ≤ kC W) : ∃ W' h', f_K_put z [.ref (kg W 0 0), .ref (xn h), .ref (kg W 5 o), .int (nI i)] (kPut W (xpush h 7 (kCapE W th r b p)) c) = some (.inl none, kPut W' h' (kDerS c (kC W + 1) th r b p o i n)) ∧ kFr 2 2007 W h W' h' ∧ kXt W W' ∧ kT W' = kT W ∧ kC W' = kC W + 1 ∧ n + 1 ≤ kcap W' ∧ kg W' 1 (kC W + 1) = xn h := by
  have ok' := regC_ok ok 7 (kCapE W th r b p)
  have hl' : kLs (wC W (xn h)) (cNew c (kC W + 1) th r b p) n := by
    obtain ⟨l1, l2, l3, l4, l5, l6⟩ := hl
    refine ⟨l1, l2, l3, l4, fun i hi => ?_, fun i hi => ?_⟩
    · have := l5 i hi
      have e : cNew c (kC W + 1) th r b p 70 i = c 70 i := congrFun (cNew_fn (by decide) (by decide) (by decide) (by decide) (by decide) (by decide) (by decide)) i
      rw [e]
      exact ⟨⟨this.1.1, by have := this.1.2; show vN (c 70 i) < kC W + 1 + 1; omega⟩, this.2⟩
    · have e : cNew c (kC W + 1) th r b p 70 i = c 70 i := congrFun (cNew_fn (by decide) (by decide) (by decide) (by decide) (by decide) (by decide) (by decide)) i
      rw [e]
      exact l6 i hi
  have hth : cNew c (kC W + 1) th r b p 8 (kC W + 1) = nI th := by
    simp only [cNew, sS_app, Nat.reduceEqDiff, false_and, and_self, ↓reduceIte]
  have hk' : cNew c (kC W + 1) th r b p 1 o = nI 3 := hk
  obtain ⟨W', h', e, p1, p2, p3, p4, p5⟩ := t_K_put (z := z) ok' hz hl' hn (show 1 ≤ kC W + 1 by omega) (Nat.le_refl _) (by omega) (show o < kT (wC W (xn h)) from ho) R.2.2.2.2 hk' hi hth (show th < kT (wC W (xn h)) from ht)
  have g1 : kg (wC W (xn h)) 1 (kC W + 1) = xn h := by rw [wC_g, if_pos ⟨rfl, rfl⟩]
  rw [← regC ok R ht hp, wC_gn (by decide), g1, wC_gn (by decide)] at e
  refine ⟨W', h', e, kFr.mono (kFr.tr (regC_fr ok _) p1) (by decide) (by decide), ?_, p3, p4, p5, ?_⟩
  · refine kXt.tr (W' := wC W (xn h)) (Nat.le_refl _) (Nat.le_succ _) ⟨fun f i q D => ?_, hl.2.2.1, Or.inl rfl⟩ p2
    rw [wC_g, if_neg (fun y => by rcases D with ⟨e, hi⟩ | ⟨e, hi, hi2⟩ | ⟨e, hi, hi2⟩ | ⟨e, hi⟩ | ⟨e, hi⟩ <;> omega)]
  · rw [p2.1 1 (kC W + 1) (by omega) (Or.inr (Or.inl ⟨rfl, by omega, Nat.le_refl _⟩)), g1]
theorem t_K_derive (ok : kOk W h) (R : kRf W c) (hz : z.1 < h.1) {n o i j th : Nat} {r b : Int32} (hl : kLs W c n) (hn : n < 1200) (hC : kC W + 1 < 1200) (ho : o < kT W) (hk : c 1 o = nI 3) (hi : i < 8) (h1 : 1 ≤ j) (h2 : j ≤ kC W) (hth : c 8 j = nI th) (ht : th < kT W) : ∃ W' h', f_K_derive z [.ref (kg W 0 0), .ref (kg W 1 j), .int r, .int b, .ref (kg W 5 o), .int (nI i)] (kPut W h c) = some (.inl (some (.int (c 9 j &&& r))), kPut W' h' (kDerS c (kC W + 1) th (c 9 j &&& r) b (nI j) o i n)) ∧ kFr 2 2007 W h W' h' ∧ kXt W W' ∧ kT W' = kT W ∧ kC W' = kC W + 1 ∧ n + 1 ≤ kcap W' := by
  have hT := R.2.2.2.2
  have ej : vN (nI j) = j := vN_nI (by omega)
  obtain ⟨W', h', e, p1, p2, p3, p4, p5, p6⟩ := t_K_putNew (z := z) (r := c 9 j &&& r) (b := b) (p := nI j) ok R hz hl hn hC ho hk hi ht (by rw [ej]; exact h2)
  refine ⟨W', h', ?_, p1, p2, p3, p4, p5⟩
  refine E_K_derive z _ (some (kg W 1 j)) _ _ (some (kg W 5 o)) _ _ _ ?_
  have et : vN (c 8 j) = th := by rw [hth]; exact vN_nI (by omega)
  have cn := t_C_new (z := z) (kPut W h c) 7 (some (kg W 5 th)) (some (kg W 1 j)) (c 9 j &&& r) b
  have ok2 := kOk_push ok 7 (.inr (1, [.null, .int 0, .int 0, .null, .null, .int 0, .int 0]))
  unfold D_K_derive_0
  show (rdR (xpush (kPut W h c) 7 (.inr (1, [.null, .int 0, .int 0, .null, .null, .int 0, .int 0]))) (kg W 1 j) 1 0).bind _ = _
  rw [kPut_push ok, kr_thing ok2 h1 h2, Option.bind_some, kr_rights ok2 h1 h2, Option.bind_some, ← kPut_push ok, et]
  show xclC (f_C_new z [.ref (xn (kPut W h c)), va_rf (some (kg W 5 th)), .int (c 9 j &&& r), .int b, va_rf (some (kg W 1 j))] _) _ = _
  rw [cn, xclC_some, kPut_push ok, kPut_n]
  have ec : (Sum.inr (1, [va_rf (some (kg W 5 th)), .int (c 9 j &&& r), .int b, va_rf (some (kg W 1 j)), .null, .int 0, .int 0]) : va_E) = kCapE W th (c 9 j &&& r) b (nI j) := by
    unfold kCapE
    rw [kRC_n h1 (by omega)]
    rfl
  rw [ec]
  rw [kisK (kOk_push ok _ _), Option.bind_some]
  show xclV (f_K_put z [.ref (kg W 0 0), .ref (xn h), .ref (kg W 5 o), .int (nI i)] _) _ = _
  rw [e, xclV_some]
  have rr := kr_rights (c := kDerS c (kC W + 1) th (c 9 j &&& r) b (nI j) o i n) p1.1 (show 1 ≤ kC W + 1 by omega) (show kC W + 1 ≤ kC W' by omega)
  rw [p6] at rr
  rw [rr, Option.bind_some]
  have ev : kDerS c (kC W + 1) th (c 9 j &&& r) b (nI j) o i n 9 (kC W + 1) = c 9 j &&& r := by
    simp only [kDerS, kPutS, kLadd, cNew, sS_app, Nat.reduceEqDiff, false_and, and_self, ↓reduceIte]
  rw [ev]
end KI
