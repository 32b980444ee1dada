/-! The class: an object comes. -/
/-- a further object lives at a, its slots behind it -/
def wT (W : kW) (a : Nat) : kW := (fun x => if x = a then some (5, kT W) else if x = a + 1 then some (6, kT W) else kA W x, fun f j => if f = 5 ∧ j = kT W then a else if f = 6 ∧ j = kT W then a + 1 else kg W f j, kcap W, kT W + 1, kC W)
/-- references of objects are of objects that are there; no slot of a further one is taken -/
def kRg (W : kW) (c : mS) : Prop := (∀ t, 1 ≤ t → t < 4 → vN (c 52 t) ≤ kT W ∧ vN (c 56 t) ≤ kT W) ∧ (∀ j, 1 ≤ j → j ≤ kC W → vN (c 64 j) ≤ kT W ∧ vN (c 8 j) < kT W) ∧ (∀ o, o < kT W → vN (c 5 o) < kT W) ∧ 10 ≤ kT W ∧ ∀ i, i < 8 → c 14 (8 * kT W + i) = 0
def tNew (c : mS) (x : Nat) (k sz : Int32) (o : Nat) : mS := sS (sS (sS (sS (sS (sS (sS (sS c 1 x k) 2 x sz) 3 x 0) 4 x 0) 5 x (nI o)) 6 x 1) 61 x 0) 62 x 0
section KJ
variable {z : xzs} {W : kW} {h : xH} {c : mS}
theorem wT_g {a f j : Nat} : kg (wT W a) f j = if f = 5 ∧ j = kT W then a else if f = 6 ∧ j = kT W then a + 1 else kg W f j := rfl
theorem wT_A {a x : Nat} : kA (wT W a) x = if x = a then some (5, kT W) else if x = a + 1 then some (6, kT W) else kA W x := rfl
theorem wT_gn {a f j : Nat} (h5 : f ≠ 5) (h6 : f ≠ 6) : kg (wT W a) f j = kg W f j := by rw [wT_g, if_neg (fun w => h5 w.1), if_neg (fun w => h6 w.1)]
theorem wT_gj {a f j : Nat} (hj : j ≠ kT W) : kg (wT W a) f j = kg W f j := by rw [wT_g, if_neg (fun w => hj w.2), if_neg (fun w => hj w.2)]
theorem wT_rc {a : Nat} {x : Int32} : kRC (wT W a) x = kRC W x := by
  unfold kRC
  rw [wT_gn (by decide) (by decide)]
theorem wT_rl {a : Nat} {x : Int32} : kRL (wT W a) x = kRL W x := by
  unfold kRL
  rw [wT_gn (by decide) (by decide)]
theorem wT_rt {a : Nat} {x : Int32} (hx : vN x - 1 ≠ kT W) : kRT (wT W a) x = kRT W x := by
  unfold kRT
  rw [wT_gj hx]
theorem wT_ro {a : Nat} {x : Int32} (hx : vN x ≠ kT W) : kRO (wT W a) x = kRO W x := by
  unfold kRO
  rw [wT_gj hx]
theorem tNew_ne {x o f j : Nat} {k sz : Int32} (hj : j ≠ x) : tNew c x k sz o f j = c f j := by
  simp only [tNew, sS_app, hj, and_false, ↓reduceIte]
theorem tNew_fn {x o f : Nat} {k sz : Int32} (h1 : f ≠ 1) (h2 : f ≠ 2) (h3 : f ≠ 3) (h4 : f ≠ 4) (h5 : f ≠ 5) (h6 : f ≠ 6) (h7 : f ≠ 61) (h8 : f ≠ 62) : tNew c x k sz o f = c f := by
  unfold tNew
  rw [sS_fn h8, sS_fn h7, sS_fn h6, sS_fn h5, sS_fn h4, sS_fn h3, sS_fn h2, sS_fn h1]
theorem wT_cell (R : kRg W c) {a o : Nat} {k sz : Int32} : ∀ d, kDom W d.1 d.2 → kCell (wT W a) (tNew c (kT W) k sz o) d = kCell W c d := by
  intro d D
  obtain ⟨f, i⟩ := d
  obtain ⟨R1, R2, R3, R4, R5⟩ := R
  dsimp only at D
  have fn : ∀ f, f ≠ 1 → f ≠ 2 → f ≠ 3 → f ≠ 4 → f ≠ 5 → f ≠ 6 → f ≠ 61 → f ≠ 62 → tNew c (kT W) k sz o f = c f := fun f h1 h2 h3 h4 h5 h6 h7 h8 => tNew_fn h1 h2 h3 h4 h5 h6 h7 h8
  rcases D with ⟨e, hi⟩ | ⟨e, hi, hi2⟩ | ⟨e, hi, hi2⟩ | ⟨e, hi⟩ | ⟨e, hi⟩
  · subst e
    show kc0 (wT W a) _ i = kc0 W c i
    unfold kc0
    split <;> simp only [wT_gn (show 0 ≠ 5 by decide) (show 0 ≠ 6 by decide), wT_gn (show 2 ≠ 5 by decide) (show 2 ≠ 6 by decide), wT_gj (show 1 ≠ kT W by omega), fn 69 (by decide) (by decide) (by decide) (by decide) (by decide) (by decide) (by decide) (by decide), fn 68 (by decide) (by decide) (by decide) (by decide) (by decide) (by decide) (by decide) (by decide), fn 31 (by decide) (by decide) (by decide) (by decide) (by decide) (by decide) (by decide) (by decide), fn 71 (by decide) (by decide) (by decide) (by decide) (by decide) (by decide) (by decide) (by decide), fn 72 (by decide) (by decide) (by decide) (by decide) (by decide) (by decide) (by decide) (by decide), fn 70 (by decide) (by decide) (by decide) (by decide) (by decide) (by decide) (by decide) (by decide), fn 36 (by decide) (by decide) (by decide) (by decide) (by decide) (by decide) (by decide) (by decide), fn 37 (by decide) (by decide) (by decide) (by decide) (by decide) (by decide) (by decide) (by decide), fn 35 (by decide) (by decide) (by decide) (by decide) (by decide) (by decide) (by decide) (by decide), fn 73 (by decide) (by decide) (by decide) (by decide) (by decide) (by decide) (by decide) (by decide), fn 74 (by decide) (by decide) (by decide) (by decide) (by decide) (by decide) (by decide) (by decide), fn 75 (by decide) (by decide) (by decide) (by decide) (by decide) (by decide) (by decide) (by decide), fn 76 (by decide) (by decide) (by decide) (by decide) (by decide) (by decide) (by decide) (by decide), wT_rc]
    rfl
  · subst e
    show kc1 (wT W a) _ i = kc1 W c i
    have q := fun f h1 h2 h3 h4 h5 h6 h7 h8 => congrFun (fn f h1 h2 h3 h4 h5 h6 h7 h8) i
    obtain ⟨r1, r2⟩ := R2 i hi hi2
    unfold kc1
    rw [q 8 (by decide) (by decide) (by decide) (by decide) (by decide) (by decide) (by decide) (by decide), q 9 (by decide) (by decide) (by decide) (by decide) (by decide) (by decide) (by decide) (by decide), q 10 (by decide) (by decide) (by decide) (by decide) (by decide) (by decide) (by decide) (by decide), q 11 (by decide) (by decide) (by decide) (by decide) (by decide) (by decide) (by decide) (by decide), q 64 (by decide) (by decide) (by decide) (by decide) (by decide) (by decide) (by decide) (by decide), q 65 (by decide) (by decide) (by decide) (by decide) (by decide) (by decide) (by decide) (by decide), q 12 (by decide) (by decide) (by decide) (by decide) (by decide) (by decide) (by decide) (by decide), wT_gj (by omega), wT_rc, wT_rt (by omega)]
  · subst e
    show kc2 (wT W a) _ i = kc2 W c i
    have q := fun f h1 h2 h3 h4 h5 h6 h7 h8 => congrFun (fn f h1 h2 h3 h4 h5 h6 h7 h8) i
    obtain ⟨r1, r2⟩ := R1 i hi hi2
    unfold kc2
    rw [q 15 (by decide) (by decide) (by decide) (by decide) (by decide) (by decide) (by decide) (by decide), q 16 (by decide) (by decide) (by decide) (by decide) (by decide) (by decide) (by decide) (by decide), q 17 (by decide) (by decide) (by decide) (by decide) (by decide) (by decide) (by decide) (by decide), q 18 (by decide) (by decide) (by decide) (by decide) (by decide) (by decide) (by decide) (by decide), q 19 (by decide) (by decide) (by decide) (by decide) (by decide) (by decide) (by decide) (by decide), q 20 (by decide) (by decide) (by decide) (by decide) (by decide) (by decide) (by decide) (by decide), q 21 (by decide) (by decide) (by decide) (by decide) (by decide) (by decide) (by decide) (by decide), q 23 (by decide) (by decide) (by decide) (by decide) (by decide) (by decide) (by decide) (by decide), q 52 (by decide) (by decide) (by decide) (by decide) (by decide) (by decide) (by decide) (by decide), q 24 (by decide) (by decide) (by decide) (by decide) (by decide) (by decide) (by decide) (by decide), q 25 (by decide) (by decide) (by decide) (by decide) (by decide) (by decide) (by decide) (by decide), q 26 (by decide) (by decide) (by decide) (by decide) (by decide) (by decide) (by decide) (by decide), q 56 (by decide) (by decide) (by decide) (by decide) (by decide) (by decide) (by decide) (by decide), q 27 (by decide) (by decide) (by decide) (by decide) (by decide) (by decide) (by decide) (by decide), q 28 (by decide) (by decide) (by decide) (by decide) (by decide) (by decide) (by decide) (by decide), q 29 (by decide) (by decide) (by decide) (by decide) (by decide) (by decide) (by decide) (by decide), q 30 (by decide) (by decide) (by decide) (by decide) (by decide) (by decide) (by decide) (by decide), wT_gj (by omega), wT_rt (by omega), wT_rt (by omega), wT_rc, wT_rl]
  · subst e
    show kc5 (wT W a) _ i = kc5 W c i
    have hne : i ≠ kT W := by omega
    have := R3 i hi
    simp only [kc5, tNew_ne hne, wT_gj hne, wT_ro (show vN (c 5 i) ≠ kT W by omega)]
  · subst e
    show kc6 (wT W a) _ i = kc6 W c i
    have hne : i ≠ kT W := by omega
    unfold kc6
    rw [tNew_ne hne, fn 14 (by decide) (by decide) (by decide) (by decide) (by decide) (by decide) (by decide) (by decide)]
    simp only [wT_rc]
def kThE (W : kW) (a x : Nat) (k sz : Int32) (o : Nat) : va_E := .inr (5, [.int k, .int sz, .int 0, .ref (a + 1), .int (kNum x), .int 0, .int 0, .int 0, .int 0, .int 0, .ref (kg W 5 o)])
def kSlE (k : Int32) : va_E := kQ (if k = nI 3 then 8 else 0) (fun _ => none) 2
def kH2 (h : xH) (e : va_E) (k : Int32) : xH := xpush (xpush h 11 e) (if k = nI 3 then 8 else 0) (kSlE k)
theorem regT (ok : kOk W h) (R : kRg W c) {o : Nat} (h1 : 1 ≤ o) (ho : o < kT W) (hT : kT W < 50) (k sz : Int32) : kPut W (kH2 h (kThE W (xn h) (kT W) k sz o) k) c = kPut (wT W (xn h)) (kH2 h (kThE W (xn h) (kT W) k sz o) k) (tNew c (kT W) k sz o) := by
  refine xH_ext rfl rfl fun a => ?_
  have ok1 := kOk_push ok 11 (kThE W (xn h) (kT W) k sz o)
  have n1 := ok1.new
  rw [xn_push] at n1
  unfold kH2
  rw [xat_k, xat_k, xat_push, xat_push, xn_push, wT_A]
  by_cases a1 : a = xn h + 1
  · subst a1
    rw [if_pos rfl, if_neg (by omega), if_pos rfl, n1, Option.map_some, Option.map_some, Option.elim_none, Option.elim_some]
    congr 1
    show kSlE k = kc6 _ _ _
    unfold kSlE kc6
    have e1 : tNew c (kT W) k sz o 1 (kT W) = k := by
      simp only [tNew, sS_app, Nat.reduceEqDiff, false_and, and_self, ↓reduceIte]
    rw [e1, tNew_fn (by decide) (by decide) (by decide) (by decide) (by decide) (by decide) (by decide) (by decide)]
    congr 1
    funext u
    by_cases w : u < 8
    · rw [if_pos w, R.2.2.2.2 u w, kRC_0]
    · rw [if_neg w]
  · rw [if_neg a1]
    by_cases a2 : a = xn h
    · subst a2
      rw [if_pos rfl, if_pos rfl, ok.new, Option.map_some, Option.map_some, Option.elim_none, Option.elim_some]
      congr 1
      have h10 := R.2.2.2.1
      have es : kSrv (kT W) = 0 := by
        unfold kSrv
        rw [if_neg (by omega), if_neg (by omega)]
      have eg : kG 1 = 0 := by decide
      have g6 : kg (wT W (xn h)) 6 (kT W) = xn h + 1 := by rw [wT_g, if_neg (by omega), if_pos ⟨rfl, rfl⟩]
      have ro : kRO (wT W (xn h)) (nI o) = some (kg W 5 o) := by
        rw [wT_ro (by rw [vN_nI (by omega)]; omega), kRO_n h1 (by omega)]
      simp only [kCell, kc5, kThE, tNew, sS_app, Nat.reduceEqDiff, false_and, and_self, ↓reduceIte, es, eg, g6, ro]
      rfl
    · rw [if_neg a2, if_neg a2, if_neg a1]
      cases e0 : xat h a with
      | none => rw [Option.map_none, Option.map_none]
      | some x =>
        rw [Option.map_some, Option.map_some]
        cases e1 : kA W a with
        | none => rw [Option.elim_none, Option.elim_none]
        | some d => rw [Option.elim_some, Option.elim_some, wT_cell R d (ok.2 _ _ e1).1]
theorem regT_ok (ok : kOk W h) (e : va_E) (k : Int32) : kOk (wT W (xn h)) (kH2 h e k) := by
  have en : xn (kH2 h e k) = xn h + 2 := by
    unfold kH2
    rw [xn_push, xn_push]
  have hb : h.1 ≤ xn h := by unfold xn; omega
  refine ⟨fun f j D => ?_, fun a d q => ?_⟩
  · rw [wT_g, en]
    show kA (wT W (xn h)) _ = _ ∧ h.1 ≤ _ ∧ _
    by_cases w : f = 5 ∧ j = kT W
    · rw [if_pos w, wT_A, if_pos rfl, w.1, w.2]
      exact ⟨rfl, hb, by omega⟩
    · rw [if_neg w]
      by_cases w2 : f = 6 ∧ j = kT W
      · rw [if_pos w2, wT_A, if_neg (by omega), if_pos rfl, w2.1, w2.2]
        exact ⟨rfl, by omega, by omega⟩
      · rw [if_neg w2]
        have D' : kDom W f j := by
          rcases D with ⟨e, hi⟩ | ⟨e, hi, hi2⟩ | ⟨e, hi, hi2⟩ | ⟨e, hi⟩ | ⟨e, hi⟩
          · exact Or.inl ⟨e, hi⟩
          · exact Or.inr (Or.inl ⟨e, hi, hi2⟩)
          · exact Or.inr (Or.inr (Or.inl ⟨e, hi, hi2⟩))
          · have hi : j < kT W + 1 := hi
            exact Or.inr (Or.inr (Or.inr (Or.inl ⟨e, by omega⟩)))
          · have hi : j < kT W + 1 := hi
            exact Or.inr (Or.inr (Or.inr (Or.inr ⟨e, by omega⟩)))
        obtain ⟨r1, r2, r3⟩ := ok.1 f j D'
        rw [wT_A, if_neg (by omega), if_neg (by omega)]
        exact ⟨r1, r2, by omega⟩
  · rw [wT_A] at q
    by_cases w : a = xn h
    · rw [if_pos w] at q
      cases q
      exact ⟨Or.inr (Or.inr (Or.inr (Or.inl ⟨rfl, Nat.lt_succ_self _⟩))), by rw [wT_g, if_pos ⟨rfl, rfl⟩, w]⟩
    · rw [if_neg w] at q
      by_cases w2 : a = xn h + 1
      · rw [if_pos w2] at q
        cases q
        exact ⟨Or.inr (Or.inr (Or.inr (Or.inr ⟨rfl, Nat.lt_succ_self _⟩))), by rw [wT_g, if_neg (by omega), if_pos ⟨rfl, rfl⟩, w2]⟩
      · rw [if_neg w2] at q
        obtain ⟨r1, r2⟩ := ok.2 _ _ q
        refine ⟨kDom_mono (W := W) (Nat.le_succ _) (Nat.le_refl _) r1, ?_⟩
        rw [wT_g, if_neg (fun y => by rcases r1 with ⟨e, hi⟩ | ⟨e, hi, hi2⟩ | ⟨e, hi, hi2⟩ | ⟨e, hi⟩ | ⟨e, hi⟩ <;> omega), if_neg (fun y => by rcases r1 with ⟨e, hi⟩ | ⟨e, hi, hi2⟩ | ⟨e, hi, hi2⟩ | ⟨e, hi⟩ | ⟨e, hi⟩ <;> omega)]
        exact r2
theorem regT_fr (ok : kOk W h) (e : va_E) (k : Int32) : kFr 2 19 W h (wT W (xn h)) (kH2 h e k) := by
  have en : xn (kH2 h e k) = xn h + 2 := by
    unfold kH2
    rw [xn_push, xn_push]
  refine ⟨regT_ok ok e k, rfl, by omega, by omega, ?_, fun a ha q => ⟨by rw [wT_A, if_neg (by omega), if_neg (by omega)]; exact q, ?_⟩⟩
  · show h.2.1 + 11 + (if k = nI 3 then 8 else 0) ≤ h.2.1 + 19
    split <;> omega
  · unfold kH2
    rw [xat_push, xn_push, if_neg (by omega), xat_push, if_neg (by omega)]
theorem xset_push2 (h : xH) (k k' : Nat) (e e' q : va_E) : xset (xpush (xpush h k e) k' q) (xn h) e' = xpush (xpush h k e') k' q := by
  show (h.1, h.2.1 + k + k', (h.2.2 ++ [e] ++ [q]).set (xn h - h.1) e') = (h.1, h.2.1 + k + k', h.2.2 ++ [e'] ++ [q])
  have : xn h - h.1 = h.2.2.length := by unfold xn; omega
  rw [this, List.append_assoc, List.set_append_right _ _ (Nat.le_refl _), Nat.sub_self, List.append_assoc]
  rfl
theorem xat_push2 (h : xH) (k k' : Nat) (e q : va_E) : xat (xpush (xpush h k e) k' q) (xn h) = some e := by
  rw [xat_push, xn_push, if_neg (by omega), xat_pushN]
theorem t_T_new (h : xH) (k sz sv : Int32) : f_T_new z [.ref (xn h), .int k, .int sz, .int sv] (xpush h 11 (.inr (5, [.int 0, .int 0, .int 0, .null, .int 0, .int 0, .int 0, .int 0, .int 0, .int 0, .null]))) = some (.inl none, kH2 h (.inr (5, [.int k, .int sz, .int sv, .ref (xn h + 1), .int 0, .int 0, .int 0, .int 0, .int 0, .int 0, .null])) k) := by
  refine E_T_new z _ _ _ _ _ _ ?_
  unfold D_T_new_0
  rw [xwr_of (xat_pushN _ _ _) (Nat.le_of_ble_eq_true rfl), Option.bind_some, xset_push, xwr_of (xat_pushN _ _ _) (Nat.le_of_ble_eq_true rfl), Option.bind_some, xset_push, xwr_of (xat_pushN _ _ _) (Nat.le_of_ble_eq_true rfl), Option.bind_some, xset_push, ic_3, ic_0n, bc_8]
  have key : ∀ n : Nat, n ≤ 8 → B_T_new_31 z (nI n) (some (xn h)) (xpush h 11 (.inr (5, [.int k, .int sz, .int sv, .null, .int 0, .int 0, .int 0, .int 0, .int 0, .int 0, .null]))) = some (.inl none, xpush (xpush h 11 (.inr (5, [.int k, .int sz, .int sv, .ref (xn h + 1), .int 0, .int 0, .int 0, .int 0, .int 0, .int 0, .null]))) n (kQ n (fun _ => none) 2)) := by
    intro n hn
    refine E_T_new_31 z _ _ _ _ ?_
    unfold D_T_new_31 xnarQ
    rw [nI_clamp (by omega), if_neg (by rintro (w | w); exact nI_pos (by omega) w; omega), Option.bind_some]
    show (xwr (xpush (xpush h 11 _) n _) (xn h) 5 3 (va_rf (some (xn (xpush h 11 _))))).bind _ = _
    rw [xwr_of (xat_push2 _ _ _ _ _) (Nat.le_of_ble_eq_true rfl), Option.bind_some, xset_push2, xn_push]
    rfl
  by_cases e : k = nI 3
  · rw [if_neg (fun w => w e)]
    have := key 8 (by decide)
    unfold kH2 kSlE
    rw [if_pos e]
    exact this
  · rw [if_pos e]
    have := key 0 (by decide)
    unfold kH2 kSlE
    rw [if_neg e]
    exact this
def kMkS (c : mS) (x : Nat) (k sz : Int32) (o : Nat) : mS := tNew (sS (sS (sS c 69 0 (c 69 0 + 1)) 68 0 (c 68 0 + 1)) 62 o (c 62 o + 1)) x k sz o
theorem t_K_makeOf (ok : kOk W h) (R : kRg W c) {o : Nat} (h1 : 1 ≤ o) (ho : o < kT W) (hT : kT W < 50) (hm : c 69 0 = nI (kT W - 10)) (k : Int32) : f_K_makeOf z [.ref (kg W 0 0), .ref (kg W 5 o), .int k] (kPut W h c) = some (.inl (some (.ref (xn h))), kPut (wT W (xn h)) (kH2 h (kThE W (xn h) (kT W) k (mSizeK k) o) k) (kMkS c (kT W) k (mSizeK k) o)) := by
  have h10 := R.2.2.2.1
  refine E_K_makeOf z _ (some (kg W 5 o)) _ _ _ ?_
  have e14 : B_K_makeOf_14 z (kg W 0 0) (some (kg W 5 o)) (mSizeK k) k (some (xn h)) (some (xn h)) (xpush (kPut W h c) 11 (.inr (5, [.int 0, .int 0, .int 0, .null, .int 0, .int 0, .int 0, .int 0, .int 0, .int 0, .null]))) = some (.inl (some (.ref (xn h))), kPut (wT W (xn h)) (kH2 h (kThE W (xn h) (kT W) k (mSizeK k) o) k) (kMkS c (kT W) k (mSizeK k) o)) := by
    refine E_K_makeOf_14 z _ _ _ _ _ _ _ _ ?_
    unfold D_K_makeOf_14
    have q := t_T_new (z := z) (kPut W h c) k (mSizeK k) 0
    rw [kPut_n] at q
    rw [Option.bind_some, ic_0, ic_1, q, xclC_some]
    have pp : ∀ e, kH2 (kPut W h c) e k = kPut W (kH2 h e k) c := fun e => by
      unfold kH2
      rw [kPut_push ok, kPut_push (kOk_push ok _ _)]
    have okp : ∀ e, kOk W (kH2 h e k) := fun e => kOk_push (kOk_push ok _ _) _ _
    have hA : kA W (xn h) = none := ok.new
    have wr : ∀ (c' : mS) (fs : List Value) (p : Nat) (v : Value), p < fs.length → xwr (kPut W (kH2 h (.inr (5, fs)) k) c') (xn h) 5 p v = some (kPut W (kH2 h (.inr (5, fs.set p v)) k) c') := by
      intro c' fs p v hp
      have xa : xat (kPut W (kH2 h (.inr (5, fs)) k) c') (xn h) = some (.inr (5, fs)) := by
        rw [xat_kOut hA]
        unfold kH2
        rw [xat_push2]
      rw [xwr_of xa hp, kPut_setN hA]
      · unfold kH2
        rw [xset_push2]
      · show h.1 ≤ xn h
        unfold xn; omega
      · unfold kH2
        rw [xn_push, xn_push]
        omega
    rw [pp, kr_kmade (okp _), Option.bind_some, kw_kmade (okp _), Option.bind_some, kr_stillThere (okp _), Option.bind_some, kw_stillThere (okp _), Option.bind_some, kr_kmade (okp _), Option.bind_some, Option.bind_some, wr _ _ _ _ (Nat.le_of_ble_eq_true rfl), Option.bind_some, wr _ _ _ _ (Nat.le_of_ble_eq_true rfl), Option.bind_some, Option.bind_some, kr_madeOfIt (okp _) ho, Option.bind_some, kw_madeOfIt (okp _) ho, Option.bind_some]
    have en : c 69 0 + 1 = kNum (kT W) := by
      rw [hm, nI_1]
      unfold kNum
      rw [show kT W - 10 + 1 = kT W - 9 by omega]
    have ef : (kH2 h (.inr (5, List.set (List.set [.int k, .int (mSizeK k), .int 0, .ref (xn h + 1), .int 0, .int 0, .int 0, .int 0, .int 0, .int 0, .null] 4 (.int (c 69 0 + 1))) 10 (va_rf (some (kg W 5 o))))) k) = kH2 h (kThE W (xn h) (kT W) k (mSizeK k) o) k := by
      unfold kThE
      rw [en]
      rfl
    have es : ∀ v, sS (sS c 69 0 (c 69 0 + 1)) 68 0 v 69 0 = c 69 0 + 1 := fun v => by
      simp only [sS_app, Nat.reduceEqDiff, false_and, and_self, ↓reduceIte]
    rw [es, ef]
    have R' : kRg W (sS (sS (sS c 69 0 (c 69 0 + 1)) 68 0 (c 68 0 + 1)) 62 o (c 62 o + 1)) := R
    have := regT (c := sS (sS (sS c 69 0 (c 69 0 + 1)) 68 0 (c 68 0 + 1)) 62 o (c 62 o + 1)) ok R' h1 ho hT k (mSizeK k)
    unfold kMkS
    rw [← this]
    have e1 : sS c 69 0 (c 69 0 + 1) 68 0 + 1 = c 68 0 + 1 := by
      simp only [sS_app, Nat.reduceEqDiff, false_and, ↓reduceIte]
    have e2 : sS (sS c 69 0 (c 69 0 + 1)) 68 0 (c 68 0 + 1) 62 o + 1 = c 62 o + 1 := by
      simp only [sS_app, Nat.reduceEqDiff, false_and, ↓reduceIte]
    rw [e1, e2]
    rfl
  unfold D_K_makeOf_0
  show (if ¬ k = 0 then B_K_makeOf_14 z (kg W 0 0) (some (kg W 5 o)) (Int32.ofInt 0) k (some (xn (kPut W h c))) (some (xn (kPut W h c))) _ else B_K_makeOf_14 z (kg W 0 0) (some (kg W 5 o)) (Int32.ofInt 4) k (some (xn (kPut W h c))) (some (xn (kPut W h c))) _) = _
  rw [kPut_n, ic_0, ic_4]
  by_cases e : k = 0
  · rw [if_neg (fun w => w e)]
    rw [show mSizeK k = nI 4 from if_pos e] at e14 ⊢
    exact e14
  · rw [if_pos e]
    rw [show mSizeK k = 0 from if_neg e] at e14 ⊢
    exact e14
end KJ
