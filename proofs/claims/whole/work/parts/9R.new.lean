/-! THE CLASS'S CONSTRUCTOR on explicit cells: what its parts do. -/
section EC
variable {z : xzs} {b u : Nat} {L : List va_E}
theorem g_at (i : Nat) : xat (b, u, L) (b + i) = L[i]? := by
  show (if b + i < b then none else L[b + i - b]?) = _
  rw [if_neg (by omega), Nat.add_sub_cancel_left]
theorem g_set (i : Nat) (e : va_E) : xset (b, u, L) (b + i) e = (b, u, L.set i e) := by
  show (b, u, L.set (b + i - b) e) = _
  rw [Nat.add_sub_cancel_left]
theorem g_wr {i ci k : Nat} {fs : List Value} {v : Value} (h : L[i]? = some (.inr (ci, fs))) (hk : k < fs.length) : xwr (b, u, L) (b + i) ci k v = some (b, u, L.set i (.inr (ci, fs.set k v))) := by
  rw [xwr_of (by rw [g_at, h]) hk, g_set]
theorem g_get {i : Nat} {e e' : va_E} (h : L[i]? = some e) : (L.set i e')[i]? = some e' := List.getElem?_set_self (List.getElem?_eq_some_iff.mp h).1
theorem g_rdR {i ci k : Nat} {fs : List Value} {r : Option Nat} (h : L[i]? = some (.inr (ci, fs))) (hk : fs[k]? = some (va_rf r)) : rdR (b, u, L) (b + i) ci k = some r := rdR_of (by rw [g_at, h]) hk
theorem g_rdI {i ci k : Nat} {fs : List Value} {x : Int32} (h : L[i]? = some (.inr (ci, fs))) (hk : fs[k]? = some (.int x)) : rdI (b, u, L) (b + i) ci k = some x := rdI_of (by rw [g_at, h]) hk
theorem g_isO {i ci : Nat} {fs : List Value} (h : L[i]? = some (.inr (ci, fs))) : xisO (b, u, L) (b + i) ci = some () := xisO_of (by rw [g_at, h])
theorem g_n : xn (b, u, L) = b + L.length := rfl
theorem g_narI {n kd : Nat} (hn : n ≤ 100000) : xnarI (b, u, L) kd (nI n) = some (b + L.length, (b, u + n, L ++ [.inl (kd, n, .inl (fun _ => 0))])) := by
  unfold xnarI
  rw [if_neg (fun w => w.elim (nI_pos (by omega)) (by rw [nI_clamp (by omega)]; omega)), nI_clamp (by omega)]
  rfl
theorem g_narQ {n kd : Nat} (hn : n ≤ 100000) : xnarQ (b, u, L) kd (nI n) = some (b + L.length, (b, u + n, L ++ [kQ n (fun _ => none) kd])) := by
  unfold xnarQ
  rw [if_neg (fun w => w.elim (nI_pos (by omega)) (by rw [nI_clamp (by omega)]; omega)), nI_clamp (by omega)]
  rfl
theorem bnd {α : Type} {o : Option α} {a : α} {f : α → Option xR} {r : xR} (h : o = some a) (k : f a = some r) : o.bind f = some r := by rw [h]; exact k
theorem bcC {o : Option xR} {h' : xH} {f : xH → Option xR} {r : xR} (h : o = some (.inl none, h')) (k : f h' = some r) : xclC o f = some r := by rw [h]; exact k
theorem bcV {o : Option xR} {h' : xH} {f : xH → Option xR} {r : xR} (h : o = some (.inl none, h')) (k : f h' = some r) : xclV o f = some r := by rw [h]; exact k
theorem bcI {o : Option xR} {x : Int32} {h' : xH} {f : Int32 → xH → Option xR} {r : xR} (h : o = some (.inl (some (.int x)), h')) (k : f x h' = some r) : xclI o f = some r := by rw [h]; exact k
theorem blet {a : Nat} {h : xH} {f : Nat → xH → Option xR} {r : xR} (k : f a h = some r) : xlet a h f = some r := k
abbrev eT (k sz sv a : Int32) (q : Nat) : va_E := .inr (5, [.int k, .int sz, .int sv, .ref q, .int 0, .int 0, .int 0, .int a, .int 0, .int 0, .null])
abbrev eT0 : va_E := .inr (5, [.int 0, .int 0, .int 0, .null, .int 0, .int 0, .int 0, .int 0, .int 0, .int 0, .null])
theorem g_T {i : Nat} {p1 p2 p3 : Int32} (n : Nat) (h : L[i]? = some eT0) (hn : (¬ p1 = nI 3 ∧ n = 0) ∨ (p1 = nI 3 ∧ n = 8)) : f_T_new z [.ref (b + i), .int p1, .int p2, .int p3] (b, u, L) = some (.inl none, (b, u + n, (L ++ [kQ n (fun _ => none) 2]).set i (eT p1 p2 p3 0 (b + L.length)))) := by
  have hi := (List.getElem?_eq_some_iff.mp h).1
  refine E_T_new z _ _ _ _ _ _ ?_
  unfold D_T_new_0
  refine bnd (g_wr h (by decide)) ?_
  refine bnd (g_wr (g_get h) (Nat.le_of_ble_eq_true rfl)) ?_
  rw [List.set_set]
  refine bnd (g_wr (g_get h) (Nat.le_of_ble_eq_true rfl)) ?_
  rw [List.set_set]
  have key : B_T_new_31 z (nI n) (some (b + i)) (b, u, L.set i (.inr (5, [.int p1, .int p2, .int p3, .null, .int 0, .int 0, .int 0, .int 0, .int 0, .int 0, .null]))) = some (.inl none, (b, u + n, (L ++ [kQ n (fun _ => none) 2]).set i (eT p1 p2 p3 0 (b + L.length)))) := by
    refine E_T_new_31 z _ _ _ _ ?_
    unfold D_T_new_31
    refine bnd (g_narQ (by omega)) ?_
    refine blet ?_
    show (xwr _ (b + i) 5 3 _).bind _ = _
    refine bnd (g_wr (i := i) (fs := [.int p1, .int p2, .int p3, .null, .int 0, .int 0, .int 0, .int 0, .int 0, .int 0, .null]) ?_ (Nat.le_of_ble_eq_true rfl)) ?_
    · rw [List.getElem?_append_left (by rw [List.length_set]; exact hi), g_get h]
    · rw [List.length_set, ← List.set_append_left _ _ hi, List.set_set]
      rfl
  rcases hn with ⟨h1, rfl⟩ | ⟨rfl, rfl⟩
  · rw [if_pos (show ¬ p1 = Int32.ofInt 3 from h1)]
    exact key
  · rw [if_neg (fun w => w rfl)]
    exact key
abbrev eC (th : Nat) (r g : Int32) : va_E := .inr (1, [.ref th, .int r, .int g, .null, .null, .int 0, .int 0])
abbrev eC0 : va_E := .inr (1, [.null, .int 0, .int 0, .null, .null, .int 0, .int 0])
theorem g_C {i th : Nat} {r g : Int32} (h : L[i]? = some eC0) : f_C_new z [.ref (b + i), .ref th, .int r, .int g, .null] (b, u, L) = some (.inl none, (b, u, L.set i (eC th r g))) := by
  refine E_C_new z _ (some th) _ _ none _ _ ?_
  unfold D_C_new_0
  refine bnd (g_wr h (by decide)) ?_
  refine bnd (g_wr (g_get h) (Nat.le_of_ble_eq_true rfl)) ?_
  rw [List.set_set]
  refine bnd (g_wr (g_get h) (Nat.le_of_ble_eq_true rfl)) ?_
  rw [List.set_set]
  refine bnd (g_wr (g_get h) (Nat.le_of_ble_eq_true rfl)) ?_
  rw [List.set_set]
  rfl
theorem g_A {i : Nat} (h : L[i]? = some (.inr (7, [.null, .int 0, .int 0]))) : f_A_new z [.ref (b + i)] (b, u, L) = some (.inl none, (b, u, L.set i (.inr (7, [.ref z.1, .int 0, .int 0])))) := by
  show (xwr (b, u, L) (b + i) 7 1 (.int 0)).bind _ = _
  refine bnd (g_wr h (by decide)) ?_
  refine bnd (g_wr (g_get h) (Nat.le_of_ble_eq_true rfl)) ?_
  rw [List.set_set]
  rfl
theorem g_stamp {i : Nat} {fs : List Value} {x : Int32} (h : L[i]? = some (.inr (0, fs))) (hf : fs[5]? = some (.int x)) : f_K_nextStamp z [.ref (b + i)] (b, u, L) = some (.inl (some (.int (x + 1))), (b, u, L.set i (.inr (0, fs.set 5 (.int (x + 1)))))) := by
  have hl := (List.getElem?_eq_some_iff.mp hf).1
  refine E_K_nextStamp z _ _ _ ?_
  unfold D_K_nextStamp_0
  refine bnd (g_rdI h hf) ?_
  refine bnd (g_wr h hl) ?_
  exact bnd (g_rdI (g_get h) (List.getElem?_set_self hl)) rfl
/-- the slots of a table take a capability -/
theorem g_hold {t a c sl : Nat} {tf cf : List Value} {f : Nat → Option Nat} (ht : L[t]? = some (.inr (5, tf))) (htf : tf[3]? = some (.ref (b + a))) (ha : L[a]? = some (kQ 8 f 2)) (hc : L[c]? = some (.inr (1, cf))) (hs : sl < 8) : f_T_hold z [.ref (b + t), .int (nI sl), .ref (b + c)] (b, u, L) = some (.inl none, (b, u, L.set a (kQ 8 (va_up f sl (some (b + c))) 2))) := by
  refine E_T_hold z _ _ (some (b + c)) _ _ ?_
  unfold D_T_hold_0
  have hhas : f_T_hasSlot z [.ref (b + t), .int (nI sl)] (b, u, L) = some (.inl (some (.int 1)), (b, u, L)) := by
    refine E_T_hasSlot z _ _ _ _ ?_
    unfold D_T_hasSlot_0
    rw [if_neg (nI_pos (by omega))]
    refine bnd (g_rdR (r := some (b + a)) ht htf) ?_
    show (xalen _ (b + a)).bind _ = _
    refine bnd (a := 8) ?_ ?_
    · unfold xalen
      rw [g_at, ha]
      rfl
    · rw [if_neg (show ¬ Int32.ofNat 8 ≤ nI sl from nI_ge hs (by decide))]
      refine E_T_hasSlot_18 z _ _ _ ?_
      unfold D_T_hasSlot_18
      rw [ic_1, if_pos (Or.inr rfl)]
  refine bnd (g_isO ht) ?_
  refine bcI hhas ?_
  rw [if_neg (by decide)]
  refine bnd (g_rdR (r := some (b + a)) ht htf) ?_
  show (wrQ _ (b + a) (nI sl) _).bind _ = _
  refine bnd (a := (b, u, L.set a (kQ 8 (va_up f sl (some (b + c))) 2))) ?_ (E_T_hold_15 z _ _ rfl)
  unfold wrQ
  have hq : xaq (kQ 8 f 2) = some (2, 8, f) := rfl
  have he : xelm (b, u, L) 2 (some (b + c)) = some () := by
    unfold xelm
    simp only [g_at, hc, Option.bind_some]
    rfl
  rw [g_at, ha, Option.bind_some, hq, Option.bind_some, xix_nI hs (by decide), Option.bind_some, he, Option.bind_some, g_set]
  rfl
abbrev eL (d : Nat) (m n : Int32) : va_E := .inr (7, [.ref d, .int m, .int n])
/-- the list takes a capability: the first of all; room is there; the array grows -/
theorem g_add0 {i c : Nat} {m : Int32} {cf : List Value} (h : L[i]? = some (eL z.1 m 0)) (hc : L[c]? = some (.inr (1, cf))) : f_A_add z [.ref (b + i), .ref (b + c)] (b, u, L) = some (.inl (some (.int 1)), (b, u + 10, (L ++ [xobs (va_up (fun _ => none) 0 (some (b + c))) 10]).set i (eL (b + L.length) (m + 1) 1))) := by
  show (xisO (b, u, L) (b + c) 1).bind _ = _
  refine bnd (g_isO hc) ?_
  refine bnd (a := (z.1, m, 0)) ?_ ?_
  · unfold xlist
    rw [g_rdR (r := some z.1) h rfl, Option.bind_some, Option.bind_some, g_rdI h rfl, Option.bind_some, g_rdI h rfl, Option.bind_some, if_pos (xlen3_of (by rw [g_at, h]))]
  · show (if z.1 = z.1 then (if (0 : Int32) = 0 then some _ else none) else _) = _
    rw [if_pos rfl, if_pos rfl]
    unfold xlset
    rw [show xpush (b, u, L) 10 (xobs (va_up (fun _ => none) 0 (some (b + c))) 10) = (b, u + 10, L ++ [xobs (va_up (fun _ => none) 0 (some (b + c))) 10]) from rfl, g_set]
    rfl
theorem g_add {i c d n cap : Nat} {m : Int32} {cf : List Value} {f : Nat → Option Nat} (h : L[i]? = some (eL (b + d) m (nI n))) (hc : L[c]? = some (.inr (1, cf))) (hd : L[d]? = some (xobs f cap)) (hz : z.1 < b) (hn : n < cap) (h2 : 2 ≤ cap) (h4 : cap ≤ 40000) : f_A_add z [.ref (b + i), .ref (b + c)] (b, u, L) = some (.inl (some (.int 1)), (b, u, (L.set d (xobs (va_up f n (some (b + c))) cap)).set i (eL (b + d) (m + 1) (nI (n + 1))))) := by
  show (xisO (b, u, L) (b + c) 1).bind _ = _
  refine bnd (g_isO hc) ?_
  refine bnd (a := (b + d, m, nI n)) ?_ ?_
  · unfold xlist
    rw [g_rdR (r := some (b + d)) h rfl, Option.bind_some, Option.bind_some, g_rdI h rfl, Option.bind_some, g_rdI h rfl, Option.bind_some, if_pos (xlen3_of (by rw [g_at, h]))]
  · show (if b + d = z.1 then _ else (xat (b, u, L) (b + d)).bind _) = _
    rw [if_neg (by omega), g_at, hd, Option.bind_some]
    show (if (4 : Nat) = 4 ∧ ¬ nI n < 0 ∧ cap ≤ 40000 ∧ 2 ≤ cap then (if (nI n).toNatClampNeg < cap then some _ else _) else none) = _
    rw [if_pos ⟨rfl, nI_pos (by omega), h4, h2⟩, nI_clamp (by omega), if_pos hn, nI_1]
    unfold xlset
    rw [g_set, g_set]
theorem g_addG {i c d cap : Nat} {m : Int32} {cf : List Value} {f : Nat → Option Nat} (h : L[i]? = some (eL (b + d) m (nI cap))) (hc : L[c]? = some (.inr (1, cf))) (hd : L[d]? = some (xobs f cap)) (hz : z.1 < b) (h2 : 2 ≤ cap) (h4 : cap ≤ 40000) (hel : ∀ j, j < cap → ∃ k vs, f j = some (b + k) ∧ L[k]? = some (.inr (1, vs))) : f_A_add z [.ref (b + i), .ref (b + c)] (b, u, L) = some (.inl (some (.int 1)), (b, u + (cap + cap / 2), (L ++ [xobs (va_up (va_cpy f (fun _ => none) 0 0 cap) cap (some (b + c))) (cap + cap / 2)]).set i (eL (b + L.length) (m + 1) (nI (cap + 1))))) := by
  show (xisO (b, u, L) (b + c) 1).bind _ = _
  refine bnd (g_isO hc) ?_
  refine bnd (a := (b + d, m, nI cap)) ?_ ?_
  · unfold xlist
    rw [g_rdR (r := some (b + d)) h rfl, Option.bind_some, Option.bind_some, g_rdI h rfl, Option.bind_some, g_rdI h rfl, Option.bind_some, if_pos (xlen3_of (by rw [g_at, h]))]
  · show (if b + d = z.1 then _ else (xat (b, u, L) (b + d)).bind _) = _
    rw [if_neg (by omega), g_at, hd, Option.bind_some]
    show (if (4 : Nat) = 4 ∧ ¬ nI cap < 0 ∧ cap ≤ 40000 ∧ 2 ≤ cap then (if (nI cap).toNatClampNeg < cap then _ else if (nI cap).toNatClampNeg = cap then (if xcaps (b, u, L) cap f = true then some _ else none) else none) else none) = _
    have hca : xcaps (b, u, L) cap f = true := by
      unfold xcaps
      rw [List.all_eq_true]
      intro j hj
      obtain ⟨k, vs, e1, e2⟩ := hel j (List.mem_range.mp hj)
      rw [e1]
      show (xisO (b, u, L) (b + k) 1).isSome = true
      rw [g_isO e2]
      rfl
    rw [if_pos ⟨rfl, nI_pos (by omega), h4, h2⟩, nI_clamp (by omega), if_neg (Nat.lt_irrefl _), if_pos rfl, if_pos hca, nI_1]
    unfold xlset
    rw [show xpush (b, u, L) (cap + cap / 2) (xobs (va_up (va_cpy f (fun _ => none) 0 0 cap) cap (some (b + c))) (cap + cap / 2)) = (b, u + (cap + cap / 2), L ++ [xobs (va_up (va_cpy f (fun _ => none) 0 0 cap) cap (some (b + c))) (cap + cap / 2)]) from rfl, g_set]
    rfl
/-- put: the capability's place, the table's slot, the thing's holders, the list -/
theorem g_put {c t a th sl : Nat} {kf tf hf : List Value} {r g hx y : Int32} {f : Nat → Option Nat} {u' : Nat} {L' : List va_E} (hK : L[0]? = some (.inr (0, kf))) (hkf : kf[6]? = some (.ref (b + 2))) (hc : L[c]? = some (eC (b + th) r g)) (ht : L[t]? = some (.inr (5, tf))) (htf : tf[3]? = some (.ref (b + a))) (ha : L[a]? = some (kQ 8 f 2)) (hth : L[th]? = some (.inr (5, hf))) (hhf : hf[7]? = some (.int hx)) (hs : sl < 8)
    (n1 : c ≠ t) (n2 : c ≠ a) (n3 : c ≠ th) (n4 : a ≠ c) (n5 : a ≠ th) (n6 : c ≠ 0) (n7 : a ≠ 0) (n8 : th ≠ 0) (n9 : th ≠ c) (n10 : c ≠ 2) (n11 : a ≠ 2) (n12 : th ≠ 2) {lf : List Value} (hl : L[2]? = some (.inr (7, lf)))
    (hadd : f_A_add z [.ref (b + 2), .ref (b + c)] (b, u, ((L.set c (.inr (1, [.ref (b + th), .int r, .int g, .null, .ref (b + t), .int (nI sl), .int 0]))).set a (kQ 8 (va_up f sl (some (b + c))) 2)).set th (.inr (5, hf.set 7 (.int (hx + 1))))) = some (.inl (some (.int y)), (b, u', L'))) :
    f_K_put z [.ref b, .ref (b + c), .ref (b + t), .int (nI sl)] (b, u, L) = some (.inl none, (b, u', L')) := by
  have hL7 := (List.getElem?_eq_some_iff.mp hhf).1
  refine E_K_put z _ (some (b + c)) (some (b + t)) _ _ _ ?_
  unfold D_K_put_0
  show (xisO _ (b + c) 1).bind _ = _
  refine bnd (g_isO hc) ?_
  have hent : f_C_enterSlot z [.ref (b + c), .ref (b + t), .int (nI sl)] (b, u, L) = some (.inl none, (b, u, (L.set c (.inr (1, [.ref (b + th), .int r, .int g, .null, .ref (b + t), .int (nI sl), .int 0]))).set a (kQ 8 (va_up f sl (some (b + c))) 2))) := by
    refine E_C_enterSlot z _ (some (b + t)) _ _ _ ?_
    unfold D_C_enterSlot_0
    refine bnd (g_wr hc (Nat.le_of_ble_eq_true rfl)) ?_
    refine bnd (g_wr (g_get hc) (Nat.le_of_ble_eq_true rfl)) ?_
    rw [List.set_set]
    show (xisO _ (b + t) 5).bind _ = _
    have e1 : (L.set c (.inr (1, [.ref (b + th), .int r, .int g, .null, .ref (b + t), .int (nI sl), .int 0])))[t]? = some (.inr (5, tf)) := by rw [List.getElem?_set_ne n1, ht]
    refine bnd (g_isO e1) ?_
    refine bcV (g_hold (t := t) (a := a) (c := c) (f := f) e1 htf (by rw [List.getElem?_set_ne n2, ha]) (g_get hc) hs) ?_
    rfl
  refine bcV hent ?_
  refine bnd (g_rdR (i := c) (r := some (b + th)) (by rw [List.getElem?_set_ne n4, g_get hc]) rfl) ?_
  have e2 : ((L.set c (.inr (1, [.ref (b + th), .int r, .int g, .null, .ref (b + t), .int (nI sl), .int 0]))).set a (kQ 8 (va_up f sl (some (b + c))) 2))[th]? = some (.inr (5, hf)) := by rw [List.getElem?_set_ne n5, List.getElem?_set_ne n3, hth]
  show (rdI _ (b + th) 5 7).bind _ = _
  refine bnd (g_rdI e2 hhf) ?_
  refine bnd (g_wr e2 hL7) ?_
  refine bnd (g_rdR (i := 0) (r := some (b + 2)) (by rw [List.getElem?_set_ne n8, List.getElem?_set_ne n7, List.getElem?_set_ne n6, hK]) hkf) ?_
  show (xisO _ (b + 2) 7).bind _ = _
  refine bnd (g_isO (i := 2) (by rw [List.getElem?_set_ne n12, List.getElem?_set_ne n11, List.getElem?_set_ne n10, hl])) ?_
  exact bcI hadd rfl
end EC
