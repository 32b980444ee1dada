/-! The class: a capability comes. -/
/-- a further capability lives at a -/
def wC (W : kW) (a : Nat) : kW := (fun x => if x = a then some (1, kC W + 1) else kA W x, fun f j => if f = 1 ∧ j = kC W + 1 then a else kg W f j, kcap W, kT W, kC W + 1)
/-- references of capabilities are of capabilities that are there -/
def kRf (W : kW) (c : mS) : Prop := (∀ i, i < 400 → vN (c 14 i) ≤ kC W) ∧ (∀ i, vN (c 70 i) ≤ kC W) ∧ (∀ j, 1 ≤ j → j ≤ kC W → vN (c 11 j) ≤ kC W) ∧ (∀ t, 1 ≤ t → t < 4 → vN (c 26 t) ≤ kC W) ∧ kT W ≤ 50
def cNew (c : mS) (n o : Nat) (r b p : Int32) : mS := sS (sS (sS (sS (sS (sS (sS c 8 n (nI o)) 9 n r) 10 n b) 11 n p) 12 n 1) 64 n 0) 65 n 0
section KH
variable {z : xzs} {W : kW} {h : xH} {c : mS}
theorem wC_g {a f j : Nat} : kg (wC W a) f j = if f = 1 ∧ j = kC W + 1 then a else kg W f j := rfl
theorem wC_A {a x : Nat} : kA (wC W a) x = if x = a then some (1, kC W + 1) else kA W x := rfl
theorem wC_gn {a f j : Nat} (hf : f ≠ 1) : kg (wC W a) f j = kg W f j := by rw [wC_g, if_neg (fun w => hf w.1)]
theorem wC_g1 {a j : Nat} (hj : j ≤ kC W) : kg (wC W a) 1 j = kg W 1 j := by rw [wC_g, if_neg (by omega)]
theorem wC_rc {a : Nat} {x : Int32} (hx : vN x ≤ kC W) : kRC (wC W a) x = kRC W x := by
  unfold kRC
  rw [wC_g1 hx]
theorem wC_rt {a : Nat} {x : Int32} : kRT (wC W a) x = kRT W x := by
  unfold kRT
  rw [wC_gn (by decide)]
theorem wC_ro {a : Nat} {x : Int32} : kRO (wC W a) x = kRO W x := by
  unfold kRO
  rw [wC_gn (by decide)]
theorem wC_rl {a : Nat} {x : Int32} : kRL (wC W a) x = kRL W x := by
  unfold kRL
  rw [wC_gn (by decide)]
theorem cNew_ne {n o f j : Nat} {r b p : Int32} (hj : j ≠ n) : cNew c n o r b p f j = c f j := by
  simp only [cNew, sS_app, hj, and_false, ↓reduceIte]
theorem cNew_fn {n o f : Nat} {r b p : Int32} (h1 : f ≠ 8) (h2 : f ≠ 9) (h3 : f ≠ 10) (h4 : f ≠ 11) (h5 : f ≠ 12) (h6 : f ≠ 64) (h7 : f ≠ 65) : cNew c n o r b p f = c f := by
  unfold cNew
  rw [sS_fn h7, sS_fn h6, sS_fn h5, sS_fn h4, sS_fn h3, sS_fn h2, sS_fn h1]
theorem wC_cell (R : kRf W c) {a o : Nat} {r b p : Int32} : ∀ d, kDom W d.1 d.2 → kCell (wC W a) (cNew c (kC W + 1) o r b p) d = kCell W c d := by
  intro d D
  obtain ⟨f, i⟩ := d
  obtain ⟨R1, R2, R3, R4, R5⟩ := R
  dsimp only at D
  have fn : ∀ f, f ≠ 8 → f ≠ 9 → f ≠ 10 → f ≠ 11 → f ≠ 12 → f ≠ 64 → f ≠ 65 → cNew c (kC W + 1) o r b p f = c f := fun f h1 h2 h3 h4 h5 h6 h7 => cNew_fn h1 h2 h3 h4 h5 h6 h7
  rcases D with ⟨e, hi⟩ | ⟨e, hi, hi2⟩ | ⟨e, hi, hi2⟩ | ⟨e, hi⟩ | ⟨e, hi⟩
  · subst e
    show kc0 (wC W a) _ i = kc0 W c i
    unfold kc0
    split <;> simp only [wC_gn (show 0 ≠ 1 by decide), wC_gn (show 2 ≠ 1 by decide), wC_gn (show 5 ≠ 1 by decide), fn 69 (by decide) (by decide) (by decide) (by decide) (by decide) (by decide) (by decide), fn 68 (by decide) (by decide) (by decide) (by decide) (by decide) (by decide) (by decide), fn 31 (by decide) (by decide) (by decide) (by decide) (by decide) (by decide) (by decide), fn 71 (by decide) (by decide) (by decide) (by decide) (by decide) (by decide) (by decide), fn 72 (by decide) (by decide) (by decide) (by decide) (by decide) (by decide) (by decide), fn 70 (by decide) (by decide) (by decide) (by decide) (by decide) (by decide) (by decide), fn 36 (by decide) (by decide) (by decide) (by decide) (by decide) (by decide) (by decide), fn 37 (by decide) (by decide) (by decide) (by decide) (by decide) (by decide) (by decide), fn 35 (by decide) (by decide) (by decide) (by decide) (by decide) (by decide) (by decide), fn 73 (by decide) (by decide) (by decide) (by decide) (by decide) (by decide) (by decide), fn 74 (by decide) (by decide) (by decide) (by decide) (by decide) (by decide) (by decide), fn 75 (by decide) (by decide) (by decide) (by decide) (by decide) (by decide) (by decide), fn 76 (by decide) (by decide) (by decide) (by decide) (by decide) (by decide) (by decide), wC_rc (R2 _)]
    rfl
  · subst e
    show kc1 (wC W a) _ i = kc1 W c i
    have hne : i ≠ kC W + 1 := by omega
    simp only [kc1, cNew_ne hne, wC_gn (show 5 ≠ 1 by decide), wC_rc (R3 i hi hi2), wC_rt]
  · subst e
    show kc2 (wC W a) _ i = kc2 W c i
    have q := fun f h1 h2 h3 h4 h5 h6 h7 => congrFun (fn f h1 h2 h3 h4 h5 h6 h7) i
    unfold kc2
    rw [q 15 (by decide) (by decide) (by decide) (by decide) (by decide) (by decide) (by decide), q 16 (by decide) (by decide) (by decide) (by decide) (by decide) (by decide) (by decide), q 17 (by decide) (by decide) (by decide) (by decide) (by decide) (by decide) (by decide), q 18 (by decide) (by decide) (by decide) (by decide) (by decide) (by decide) (by decide), q 19 (by decide) (by decide) (by decide) (by decide) (by decide) (by decide) (by decide), q 20 (by decide) (by decide) (by decide) (by decide) (by decide) (by decide) (by decide), q 21 (by decide) (by decide) (by decide) (by decide) (by decide) (by decide) (by decide), q 23 (by decide) (by decide) (by decide) (by decide) (by decide) (by decide) (by decide), q 52 (by decide) (by decide) (by decide) (by decide) (by decide) (by decide) (by decide), q 24 (by decide) (by decide) (by decide) (by decide) (by decide) (by decide) (by decide), q 25 (by decide) (by decide) (by decide) (by decide) (by decide) (by decide) (by decide), q 26 (by decide) (by decide) (by decide) (by decide) (by decide) (by decide) (by decide), q 56 (by decide) (by decide) (by decide) (by decide) (by decide) (by decide) (by decide), q 27 (by decide) (by decide) (by decide) (by decide) (by decide) (by decide) (by decide), q 28 (by decide) (by decide) (by decide) (by decide) (by decide) (by decide) (by decide), q 29 (by decide) (by decide) (by decide) (by decide) (by decide) (by decide) (by decide), q 30 (by decide) (by decide) (by decide) (by decide) (by decide) (by decide) (by decide), wC_gn (by decide), wC_rt, wC_rt, wC_rc (R4 i hi hi2), wC_rl]
  · subst e
    show kc5 (wC W a) _ i = kc5 W c i
    have q := fun f h1 h2 h3 h4 h5 h6 h7 => congrFun (fn f h1 h2 h3 h4 h5 h6 h7) i
    unfold kc5
    rw [q 1 (by decide) (by decide) (by decide) (by decide) (by decide) (by decide) (by decide), q 2 (by decide) (by decide) (by decide) (by decide) (by decide) (by decide) (by decide), q 3 (by decide) (by decide) (by decide) (by decide) (by decide) (by decide) (by decide), q 4 (by decide) (by decide) (by decide) (by decide) (by decide) (by decide) (by decide), q 5 (by decide) (by decide) (by decide) (by decide) (by decide) (by decide) (by decide), q 6 (by decide) (by decide) (by decide) (by decide) (by decide) (by decide) (by decide), q 61 (by decide) (by decide) (by decide) (by decide) (by decide) (by decide) (by decide), q 62 (by decide) (by decide) (by decide) (by decide) (by decide) (by decide) (by decide), wC_gn (by decide), wC_ro]
  · subst e
    show kc6 (wC W a) _ i = kc6 W c i
    unfold kc6
    rw [fn 1 (by decide) (by decide) (by decide) (by decide) (by decide) (by decide) (by decide), fn 14 (by decide) (by decide) (by decide) (by decide) (by decide) (by decide) (by decide)]
    congr 1
    funext u
    by_cases w : u < 8
    · rw [if_pos w, if_pos w, wC_rc (R1 _ (by omega))]
    · rw [if_neg w, if_neg w]
def kCapE (W : kW) (o : Nat) (r b p : Int32) : va_E := .inr (1, [.ref (kg W 5 o), .int r, .int b, va_rf (kRC W p), .null, .int 0, .int 0])
theorem regC (ok : kOk W h) (R : kRf W c) {o : Nat} (ho : o < kT W) {r b p : Int32} (hp : vN p ≤ kC W) : kPut W (xpush h 7 (kCapE W o r b p)) c = kPut (wC W (xn h)) (xpush h 7 (kCapE W o r b p)) (cNew c (kC W + 1) o r b p) := by
  refine xH_ext rfl rfl fun a => ?_
  rw [xat_k, xat_k, xat_push, wC_A]
  by_cases a1 : a = xn h
  · subst a1
    rw [if_pos rfl, if_pos rfl, ok.new, Option.map_some, Option.map_some, Option.elim_none, Option.elim_some]
    congr 1
    have ho2 := R.2.2.2.2
    simp only [kCell, kc1, kCapE, cNew, sS_app, Nat.reduceEqDiff, false_and, and_self, ↓reduceIte, wC_gn (show 5 ≠ 1 by decide), vN_nI (show o < 2 ^ 31 by omega), wC_rc hp, wC_rt, kRT_0]
    rfl
  · rw [if_neg a1, if_neg a1]
    cases e0 : xat h a with
    | none => rw [Option.map_none, Option.map_none]
    | some x =>
      rw [Option.map_some, Option.map_some]
      cases e1 : kA W a with
      | none => rw [Option.elim_none, Option.elim_none]
      | some d => rw [Option.elim_some, Option.elim_some, wC_cell R d (ok.2 _ _ e1).1]
theorem regC_ok (ok : kOk W h) (k : Nat) (e : va_E) : kOk (wC W (xn h)) (xpush h k e) := by
  refine ⟨fun f j D => ?_, fun a d q => ?_⟩
  · rw [wC_g, wC_A, xn_push]
    by_cases w : f = 1 ∧ j = kC W + 1
    · rw [if_pos w, if_pos rfl, w.1, w.2]
      exact ⟨rfl, by show h.1 ≤ xn h; unfold xn; omega, by omega⟩
    · rw [if_neg w]
      have D' : kDom W f j := by
        rcases D with ⟨e, hi⟩ | ⟨e, hi, hi2⟩ | ⟨e, hi, hi2⟩ | ⟨e, hi⟩ | ⟨e, hi⟩
        · exact Or.inl ⟨e, hi⟩
        · have hi2 : j ≤ kC W + 1 := hi2
          exact Or.inr (Or.inl ⟨e, hi, by omega⟩)
        · exact Or.inr (Or.inr (Or.inl ⟨e, hi, hi2⟩))
        · exact Or.inr (Or.inr (Or.inr (Or.inl ⟨e, hi⟩)))
        · exact Or.inr (Or.inr (Or.inr (Or.inr ⟨e, hi⟩)))
      obtain ⟨r1, r2, r3⟩ := ok.1 f j D'
      rw [if_neg (by omega)]
      exact ⟨r1, r2, by omega⟩
  · rw [wC_A] at q
    by_cases w : a = xn h
    · rw [if_pos w] at q
      cases q
      exact ⟨Or.inr (Or.inl ⟨rfl, by show 1 ≤ kC W + 1; omega, Nat.le_refl _⟩), by rw [wC_g, if_pos ⟨rfl, rfl⟩, w]⟩
    · rw [if_neg w] at q
      obtain ⟨r1, r2⟩ := ok.2 _ _ q
      refine ⟨?_, ?_⟩
      · rcases r1 with ⟨e, hi⟩ | ⟨e, hi, hi2⟩ | ⟨e, hi, hi2⟩ | ⟨e, hi⟩ | ⟨e, hi⟩
        · exact Or.inl ⟨e, hi⟩
        · exact Or.inr (Or.inl ⟨e, hi, by show d.2 ≤ kC W + 1; omega⟩)
        · exact Or.inr (Or.inr (Or.inl ⟨e, hi, hi2⟩))
        · exact Or.inr (Or.inr (Or.inr (Or.inl ⟨e, hi⟩)))
        · exact Or.inr (Or.inr (Or.inr (Or.inr ⟨e, hi⟩)))
      · rw [wC_g, if_neg (fun y => by
          rcases r1 with ⟨e, hi⟩ | ⟨e, hi, hi2⟩ | ⟨e, hi, hi2⟩ | ⟨e, hi⟩ | ⟨e, hi⟩ <;> omega)]
        exact r2
theorem regC_fr (ok : kOk W h) (e : va_E) : kFr 1 7 W h (wC W (xn h)) (xpush h 7 e) := by
  refine ⟨regC_ok ok 7 e, rfl, by rw [xn_push]; omega, by rw [xn_push]; omega, Nat.le_refl _, fun a ha q => ⟨by rw [wC_A, if_neg (by omega)]; exact q, ?_⟩⟩
  rw [xat_push, if_neg (by omega)]
theorem t_C_new (h : xH) (k : Nat) (p1 p4 : Option Nat) (p2 p3 : Int32) : f_C_new z [.ref (xn h), va_rf p1, .int p2, .int p3, va_rf p4] (xpush h k (.inr (1, [.null, .int 0, .int 0, .null, .null, .int 0, .int 0]))) = some (.inl none, xpush h k (.inr (1, [va_rf p1, .int p2, .int p3, va_rf p4, .null, .int 0, .int 0]))) := by
  refine E_C_new z _ _ _ _ _ _ _ ?_
  unfold D_C_new_0
  rw [xwr_of (xat_pushN _ _ _) (by decide), Option.bind_some, xset_push, xwr_of (xat_pushN _ _ _) (Nat.le_of_ble_eq_true rfl), Option.bind_some, xset_push, xwr_of (xat_pushN _ _ _) (Nat.le_of_ble_eq_true rfl), Option.bind_some, xset_push, xwr_of (xat_pushN _ _ _) (Nat.le_of_ble_eq_true rfl), Option.bind_some, xset_push]
  rfl
end KH
