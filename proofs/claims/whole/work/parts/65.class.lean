/-! The class: new cells, throws, the small checks. -/
section KB
variable {z : xzs} {W : kW} {h : xH} {c : mS}
theorem kPut_push (ok : kOk W h) (k : Nat) (e : va_E) : xpush (kPut W h c) k e = kPut W (xpush h k e) c := by
  have hn := ok.new
  unfold xn at hn
  show (h.1, h.2.1 + k, h.2.2.mapIdx _ ++ [e]) = (h.1, h.2.1 + k, (h.2.2 ++ [e]).mapIdx _)
  rw [List.mapIdx_append]
  show _ = (h.1, h.2.1 + k, h.2.2.mapIdx _ ++ [(kA W (h.1 + (0 + h.2.2.length))).elim e (kCell W c)])
  rw [Nat.zero_add, hn, Option.elim_none]
  rfl
theorem xn_push (h : xH) (k : Nat) (e : va_E) : xn (xpush h k e) = xn h + 1 := by
  show h.1 + (h.2.2 ++ [e]).length = h.1 + h.2.2.length + 1
  rw [List.length_append]
  rfl
theorem kOk_push (ok : kOk W h) (k : Nat) (e : va_E) : kOk W (xpush h k e) := by
  refine ⟨fun f j D => ?_, ok.2⟩
  obtain ⟨h1, h2, h3⟩ := ok.1 f j D
  exact ⟨h1, h2, by rw [xn_push]; omega⟩
theorem kPut_setN {a : Nat} (ha : kA W a = none) (e : va_E) (hl : h.1 ≤ a) (hu : a < xn h) : xset (kPut W h c) a e = kPut W (xset h a e) c := by
  unfold xn at hu
  show (h.1, h.2.1, (h.2.2.mapIdx _).set (a - h.1) e) = (h.1, h.2.1, (h.2.2.set (a - h.1) e).mapIdx _)
  refine congrArg (fun l => (h.1, h.2.1, l)) (List.ext_getElem? fun i => ?_)
  rw [List.getElem?_mapIdx]
  show _ = Option.map (fun e_1 => (kA W (h.1 + i)).elim e_1 (kCell W c)) _
  by_cases hi : i = a - h.1
  · subst hi
    rw [List.getElem?_set_self (by rw [List.length_mapIdx]; omega), List.getElem?_set_self (by omega), Option.map_some, show h.1 + (a - h.1) = a by omega, ha, Option.elim_none]
  · rw [List.getElem?_set_ne (by omega), List.getElem?_set_ne (by omega), List.getElem?_mapIdx]
theorem xset_push (h : xH) (k : Nat) (e e' : va_E) : xset (xpush h k e) (xn h) e' = xpush h k e' := by
  show (h.1, h.2.1 + k, (h.2.2 ++ [e]).set (xn h - h.1) e') = (h.1, h.2.1 + k, h.2.2 ++ [e'])
  have : xn h - h.1 = h.2.2.length := by unfold xn; omega
  rw [this, List.set_append_right _ _ (Nat.le_refl _), Nat.sub_self]
  rfl
theorem xat_pushN (h : xH) (k : Nat) (e : va_E) : xat (xpush h k e) (xn h) = some e := by
  rw [xat_push, if_pos rfl]
def kEx (z : xzs) (h : xH) (ci : Nat) : xH := xpush h 6 (.inr (ci, [.null, .ref (xn h), .int 0, .null, va_rf z.2.1, va_rf z.2.2.1]))
def kThr (z : xzs) (W : kW) (h : xH) (c : mS) (ci : Nat) : Option xR := some (.inr (xn h), kPut W (kEx z h ci) c)
theorem k_thr (ok : kOk W h) (ci : Nat) : (xlet (xn (kPut W h c)) (xpush (kPut W h c) 6 (.inr (ci, [.null, .null, .int 0, .null, .null, .null]))) fun a1 h2 => xclC (f_X z ci [.ref a1] h2) fun h3 => some (.inr a1, h3)) = kThr z W h c ci := by
  show (xclC (f_X z ci [.ref (xn (kPut W h c))] (xpush (kPut W h c) 6 _)) fun h3 => some (.inr (xn (kPut W h c)), h3)) = _
  have e : f_X z ci [.ref (xn (kPut W h c))] (xpush (kPut W h c) 6 (.inr (ci, [.null, .null, .int 0, .null, .null, .null]))) = some (.inl none, xset (xpush (kPut W h c) 6 (.inr (ci, [.null, .null, .int 0, .null, .null, .null]))) (xn (kPut W h c)) (.inr (ci, [.null, .ref (xn (kPut W h c)), .int 0, .null, va_rf z.2.1, va_rf z.2.2.1]))) := by
    show (xat _ _).bind _ = _
    rw [xat_pushN]
    simp only [Option.bind_some, xob_same, ↓reduceIte]
  rw [e, xset_push, kPut_push ok]
  show some ((Sum.inr (xn (kPut W h c)) : xO), kPut W _ c) = _
  rw [kPut_n]
  rfl
theorem kg_inj5 (ok : kOk W h) {o o' : Nat} (h1 : o < kT W) (h2 : o' < kT W) : kg W 5 o = kg W 5 o' ↔ o = o' := ⟨fun e => (ok.inj (kDom5 h1) (kDom5 h2) e).2, fun e => by rw [e]⟩
theorem kg_inj1 (ok : kOk W h) {o o' : Nat} (h1 : 1 ≤ o) (h2 : o ≤ kC W) (h3 : 1 ≤ o') (h4 : o' ≤ kC W) : kg W 1 o = kg W 1 o' ↔ o = o' := ⟨fun e => (ok.inj (kDom1 h1 h2) (kDom1 h3 h4) e).2, fun e => by rw [e]⟩
theorem kisK (ok : kOk W h) : xisO (kPut W h c) (kg W 0 0) 0 = some () := xisO_of (xat_kPut ok (kDom0 (j := 0) (by decide)))
theorem kisA (ok : kOk W h) : xisO (kPut W h c) (kg W 0 2) 7 = some () := xisO_of (xat_kPut ok (kDom0 (j := 2) (by decide)))
theorem kisF (ok : kOk W h) : xisO (kPut W h c) (kg W 0 4) 4 = some () := xisO_of (xat_kPut ok (kDom0 (j := 4) (by decide)))
theorem kisD (ok : kOk W h) : xisO (kPut W h c) (kg W 0 5) 3 = some () := xisO_of (xat_kPut ok (kDom0 (j := 5) (by decide)))
theorem kisC (ok : kOk W h) {j : Nat} (h1 : 1 ≤ j) (h2 : j ≤ kC W) : xisO (kPut W h c) (kg W 1 j) 1 = some () := xisO_of (xat_kPut ok (kDom1 h1 h2))
theorem kisL (ok : kOk W h) {j : Nat} (h1 : 1 ≤ j) (h2 : j < 4) : xisO (kPut W h c) (kg W 2 j) 2 = some () := xisO_of (xat_kPut ok (kDom2 h1 h2))
theorem kisT (ok : kOk W h) {j : Nat} (h1 : j < kT W) : xisO (kPut W h c) (kg W 5 j) 5 = some () := xisO_of (xat_kPut ok (kDom5 h1))
-- checks of numbers
theorem t_K_isWithin (x a b : Int32) (H : xH) : f_K_isWithin z [.int x, .int a, .int b] H = some (.inl (some (.int (if x < a ∨ b < x then 0 else 1))), H) := by
  refine E_K_isWithin z x a b H _ ?_
  unfold D_K_isWithin_0
  by_cases h1 : x < a
  · rw [if_pos h1, if_pos (Or.inl h1)]
    refine E_K_isWithin_14 z H _ ?_
    unfold D_K_isWithin_14
    refine E_K_isWithin_15 z _ H _ ?_
    unfold D_K_isWithin_15
    rw [ic_0, if_pos (Or.inl rfl)]
  · rw [if_neg h1]
    by_cases h2 : b < x
    · rw [if_pos h2, if_pos (Or.inr h2)]
      refine E_K_isWithin_14 z H _ ?_
      unfold D_K_isWithin_14
      refine E_K_isWithin_15 z _ H _ ?_
      unfold D_K_isWithin_15
      rw [ic_0, if_pos (Or.inl rfl)]
    · rw [if_neg h2, if_neg (by rintro (q | q); exact h1 q; exact h2 q)]
      refine E_K_isWithin_15 z _ H _ ?_
      unfold D_K_isWithin_15
      rw [ic_1, if_pos (Or.inr rfl)]
theorem xbi (p : Prop) [Decidable p] : (if p then (0 : Int32) else 1) = 0 ∨ (if p then (0 : Int32) else 1) = 1 := by
  by_cases q : p
  · exact Or.inl (if_pos q)
  · exact Or.inr (if_neg q)
theorem bc_71k : (Int8.ofInt 71).toInt32 = nI 71 := by decide
theorem t_K_isAddress (x : Int32) (H : xH) : f_K_isAddress z [.int x] H = some (.inl (some (.int (if x < 0 ∨ nI 71 < x then 0 else 1))), H) := by
  refine E_K_isAddress z x H _ ?_
  simp only [D_K_isAddress_0, ic_0, bc_71k, t_K_isWithin, xclI_some]
  rw [if_pos (xbi _)]
theorem t_K_isClient (x : Int32) (H : xH) : f_K_isClient z [.int x] H = some (.inl (some (.int (if x < 1 ∨ nI 3 < x then 0 else 1))), H) := by
  refine E_K_isClient z x H _ ?_
  simp only [D_K_isClient_0, ic_1, ic_3, t_K_isWithin, xclI_some]
  rw [if_pos (xbi _)]
theorem t_K_slotOf {a : Nat} (ha : a < 2 ^ 31) (H : xH) : f_K_slotOf z [.int (nI a)] H = some (.inl (some (.int (nI (a % 8)))), H) := by
  refine E_K_slotOf z _ H _ ?_
  simp only [D_K_slotOf_0, bc_8]
  rw [pk_rem ha (by decide) (by decide)]
theorem t_K_needNumbers {x : Int32} (hx : ¬ x = 0) (H : xH) : f_K_needNumbers z [.int x] H = some (.inl none, H) := by
  refine E_K_needNumbers z x H _ ?_
  unfold D_K_needNumbers_0
  rw [if_pos hx]
theorem t_K_needNumbers0 (ok : kOk W h) : f_K_needNumbers z [.int 0] (kPut W h c) = kThr z W h c 8 := by
  refine E_K_needNumbers z 0 _ _ ?_
  unfold D_K_needNumbers_0
  rw [if_neg (fun w => w rfl)]
  exact k_thr ok 8
theorem t_K_needKind {x : Int32} (hx : ¬ x = 0) (H : xH) : f_K_needKind z [.int x] H = some (.inl none, H) := by
  refine E_K_needKind z x H _ ?_
  unfold D_K_needKind_0
  rw [if_pos hx]
theorem t_K_needKind0 (ok : kOk W h) : f_K_needKind z [.int 0] (kPut W h c) = kThr z W h c 8 := by
  refine E_K_needKind z 0 _ _ ?_
  unfold D_K_needKind_0
  rw [if_neg (fun w => w rfl)]
  exact k_thr ok 8
theorem t_K_needState {x : Int32} (hx : ¬ x = 0) (H : xH) : f_K_needState z [.int x] H = some (.inl none, H) := by
  refine E_K_needState z x H _ ?_
  unfold D_K_needState_0
  rw [if_pos hx]
theorem t_K_needState0 (ok : kOk W h) : f_K_needState z [.int 0] (kPut W h c) = kThr z W h c 11 := by
  refine E_K_needState z 0 _ _ ?_
  unfold D_K_needState_0
  rw [if_neg (fun w => w rfl)]
  exact k_thr ok 11
theorem t_K_needRights (ok : kOk W h) {j : Nat} (h1 : 1 ≤ j) (h2 : j ≤ kC W) {r : Int32} (hr : c 9 j &&& r = r) : f_K_needRights z [.ref (kg W 1 j), .int r] (kPut W h c) = some (.inl none, kPut W h c) := by
  refine E_K_needRights z (some (kg W 1 j)) r _ _ ?_
  simp only [D_K_needRights_0, Option.bind_some, kr_rights ok h1 h2]
  rw [if_pos hr]
theorem t_K_needRights0 (ok : kOk W h) {j : Nat} (h1 : 1 ≤ j) (h2 : j ≤ kC W) {r : Int32} (hr : ¬ c 9 j &&& r = r) : f_K_needRights z [.ref (kg W 1 j), .int r] (kPut W h c) = kThr z W h c 10 := by
  refine E_K_needRights z (some (kg W 1 j)) r _ _ ?_
  simp only [D_K_needRights_0, Option.bind_some, kr_rights ok h1 h2]
  rw [if_neg hr]
  exact k_thr ok 10
end KB
