/-! Tables: how they are looked up, and that they are right. -/
def xlook {α : Type} : List (Nat × α) → Nat → Option α
  | [], _ => none
  | e :: t, pc => match Nat.beq e.1 pc with
    | true => some e.2
    | false => xlook t pc
theorem xlook_mem {α : Type} {pc : Nat} {i : α} : ∀ {t : List (Nat × α)}, xlook t pc = some i → (pc, i) ∈ t
  | [], h => by cases h
  | e :: t, h => by
    unfold xlook at h
    split at h
    · rename_i q
      cases h
      have := Nat.eq_of_beq_eq_true q
      rw [← this]
      exact List.mem_cons_self
    · exact List.mem_cons_of_mem _ (xlook_mem h)
def xchk1 (cc : ByteArray) (nL : Nat) (e : Nat × xI) : Bool := match decode cc e.1 with
  | .ok (i, len) => decide (i = e.2) && (Nat.beq (xlen e.2) 0 || Nat.beq len (xlen e.2)) && Nat.ble (xsi e.2) nL
  | _ => false
def xchk (cc : ByteArray) (nL : Nat) (t : List (Nat × xI)) : Bool := t.all (xchk1 cc nL)
theorem xchk_ok {cc : ByteArray} {nL pc : Nat} {i : xI} {t : List (Nat × xI)} (h : xchk cc nL t = true) (hi : xlook t pc = some i) : xdec cc pc i ∧ xsi i ≤ nL := by
  have h1 := List.all_eq_true.mp h _ (xlook_mem hi)
  unfold xchk1 at h1
  split at h1
  · rename_i j len hd
    simp only [Bool.and_eq_true, decide_eq_true_eq, Bool.or_eq_true] at h1
    obtain ⟨⟨h2, h3⟩, h4⟩ := h1
    have h2 : j = i := h2
    subst h2
    refine ⟨⟨len, hd, ?_⟩, Nat.le_of_ble_eq_true h4⟩
    rcases h3 with h3 | h3
    · exact Or.inl (Nat.eq_of_beq_eq_true h3)
    · exact Or.inr (Nat.eq_of_beq_eq_true h3)
  · cases h1
theorem xGf_mono {own : String} {Ts Ts' : List Cond} {i i' : Prop} {idx : Nat} {f : Nat × Nat × FieldType × Nat} (hT : ∀ w ∈ Ts, w ∈ Ts') (hi : i → i') (h : xGf own Ts i idx f) : xGf own Ts' i' idx f := by
  obtain ⟨C, T, N, ty0, g1, g2, g3, g4, g5, g6, g7, g8, g9⟩ := h
  exact ⟨C, T, N, ty0, g1, g2, fun w hw => hT w (g3 w hw), hT _ g4, g5, g6, g7, g8, fun z => (g9 z).imp id (fun q => ⟨q.1, q.2.1, hi q.2.2⟩)⟩
theorem xGn_mono {own : String} {Ts Ts' : List Cond} {idx : Nat} {f : Nat × List Value} (hT : ∀ w ∈ Ts, w ∈ Ts') (h : xGn own Ts idx f) : xGn own Ts' idx f := by
  obtain ⟨C, T, N, ty0, g1, g2, g3, g4, g5, g6, g7, g8⟩ := h
  exact ⟨C, T, N, ty0, g1, fun w hw => hT w (g2 w hw), g3, hT _ g4, hT _ g5, hT _ g6, g7, g8⟩
theorem xGa_mono {own : String} {Ts Ts' : List Cond} {idx kd : Nat} (hT : ∀ w ∈ Ts, w ∈ Ts') (h : xGa own Ts idx kd) : xGa own Ts' idx kd := by
  obtain ⟨C, g1, g2⟩ := h
  exact ⟨C, g1, hT _ g2⟩
theorem xGc_mono {own : String} {Ts Ts' : List Cond} {idx ci : Nat} (hT : ∀ w ∈ Ts, w ∈ Ts') (h : xGc own Ts idx ci) : xGc own Ts' idx ci := by
  obtain ⟨r, g1, g2⟩ := h
  exact ⟨r, g1, hT _ g2⟩
theorem xGood_in {c0 c1 : Cond} (h : c1 ∈ xT) : GoodIn (c0 :: xT) (c1 :: xT) := by
  intro w hw
  rcases List.mem_cons.mp hw with rfl | hw
  · exact ⟨List.mem_cons_of_mem _ h, xT_good h⟩
  · exact ⟨List.mem_cons_of_mem _ hw, xT_good hw⟩
theorem xAll_nil {α : Type} {p : α → Prop} : ∀ e ∈ ([] : List α), p e := fun _ h => by cases h
theorem xAll_cons {α : Type} {p : α → Prop} {a : α} {t : List α} (h : p a) (ht : ∀ e ∈ t, p e) : ∀ e ∈ a :: t, p e := List.forall_mem_cons.mpr ⟨h, ht⟩
/-- a method's table out of its class's -/
theorem xGood_of {z : xzs} {l : Launch} {own : String} {cc : ByteArray} {nL rF rL : Nat} {ini ini0 : Prop} {c0 : Cond} {tb : List (Nat × xI)} {mk : Nat → Option (List Nat)} {fl : List (Nat × (Nat × Nat × FieldType × Nat))} {nw : List (Nat × (Nat × List Value))} {an cs : List (Nat × Nat)} {ca : List (Nat × xC)} {rt : Option FieldType}
    (hi : Cond.arrayClass .int ∈ xT) (hz : Cond.arrayClass .boolean ∈ xT) (ck : xchk cc nL tb = true) (hini : ini0 → ini) (gf : ∀ e ∈ fl, xGf own xT ini0 e.1 e.2) (gn : ∀ e ∈ nw, xGn own xT e.1 e.2) (ga : ∀ e ∈ an, xGa own xT e.1 e.2) (gc : ∀ e ∈ cs, xGc own xT e.1 e.2) (gk : ∀ e ∈ ca, xGcall z l own (c0 :: xT) rF rL e.1 e.2) :
    xGood z l (xlook tb, mk, xlook fl, xlook nw, xlook an, xlook cs, xlook ca, rt) own cc nL (c0 :: xT) ini rF rL := by
  have up : ∀ w ∈ xT, w ∈ c0 :: xT := fun w h => List.mem_cons_of_mem _ h
  refine ⟨fun pc i h => ?_, fun idx f h => xGf_mono up hini (gf _ (xlook_mem h)), fun idx f h => xGn_mono up (gn _ (xlook_mem h)), fun idx kd h => xGa_mono up (ga _ (xlook_mem h)), fun idx ci h => xGc_mono up (gc _ (xlook_mem h)), fun idx c h => gk _ (xlook_mem h)⟩
  obtain ⟨h1, h2⟩ := xchk_ok ck h
  exact ⟨h1, h2, fun _ => up _ hi, fun _ => up _ hz⟩
def fl_K : List (Nat × (Nat × Nat × FieldType × Nat)) := [(11, (0, 0, .array (.object "CapKernel$Client"), 0)), (18, (0, 6, .object "java/util/ArrayList", 0)), (27, (0, 1, .object "CapKernel$Thing", 0)), (34, (0, 2, .object "CapKernel$FileServer", 0)), (45, (2, 8, .int, 1)), (51, (2, 0, .int, 0)), (57, (2, 1, .object "CapKernel$Thing", 0)), (98, (1, 2, .int, 0)), (105, (1, 0, .object "CapKernel$Thing", 0)), (108, (5, 0, .int, 0)), (129, (5, 8, .int, 1)), (132, (5, 5, .int, 1)), (139, (5, 1, .int, 0)), (142, (0, 3, .int, 1)), (149, (5, 4, .int, 1)), (150, (5, 2, .int, 0)), (180, (2, 16, .int, 1)), (186, (2, 14, .object "CapKernel$Thing", 1)), (189, (2, 15, .int, 1)), (195, (2, 2, .int, 1)), (198, (2, 3, .int, 1)), (201, (2, 17, .object "CapKernel$Client", 1)), (205, (2, 18, .int, 1)), (211, (5, 6, .int, 1)), (231, (2, 7, .int, 1)), (237, (2, 4, .int, 1)), (240, (2, 5, .int, 1)), (241, (2, 6, .int, 1)), (244, (1, 1, .int, 0)), (255, (0, 4, .int, 1)), (258, (4, 0, .object "CapKernel$Driver", 0)), (262, (3, 1, .int, 1)), (267, (3, 2, .int, 1)), (289, (5, 7, .int, 1)), (296, (5, 10, .object "CapKernel$Thing", 1)), (299, (1, 6, .boolean, 1)), (326, (1, 3, .object "CapKernel$Capability", 1)), (330, (5, 9, .boolean, 1)), (335, (5, 3, .array (.object "CapKernel$Capability"), 0)), (339, (0, 5, .int, 1)), (346, (2, 10, .object "CapKernel$Thing", 1)), (349, (2, 9, .int, 1)), (352, (2, 13, .object "CapKernel$Capability", 1)), (359, (2, 11, .int, 1)), (362, (2, 12, .int, 1))]
theorem gfl_K : ∀ e ∈ fl_K, xGf "CapKernel" xT False e.1 e.2 := by
  unfold fl_K
  refine xAll_cons (p := fun e : Nat × (Nat × Nat × FieldType × Nat) => xGf "CapKernel" xT False e.1 e.2) ⟨"CapKernel", TC0, 7, tC0, rfl, by decide, inC0, wd_392, okC0, rfl, nmC0, fun h => absurd h (by decide), fun _ => Or.inl rfl⟩ ?_
  refine xAll_cons (p := fun e : Nat × (Nat × Nat × FieldType × Nat) => xGf "CapKernel" xT False e.1 e.2) ⟨"CapKernel", TC0, 7, tC0, rfl, by decide, inC0, wd_393, okC0, rfl, nmC0, fun h => absurd h (by decide), fun _ => Or.inl rfl⟩ ?_
  refine xAll_cons (p := fun e : Nat × (Nat × Nat × FieldType × Nat) => xGf "CapKernel" xT False e.1 e.2) ⟨"CapKernel", TC0, 7, tC0, rfl, by decide, inC0, wd_394, okC0, rfl, nmC0, fun h => absurd h (by decide), fun _ => Or.inl rfl⟩ ?_
  refine xAll_cons (p := fun e : Nat × (Nat × Nat × FieldType × Nat) => xGf "CapKernel" xT False e.1 e.2) ⟨"CapKernel", TC0, 7, tC0, rfl, by decide, inC0, wd_395, okC0, rfl, nmC0, fun h => absurd h (by decide), fun _ => Or.inl rfl⟩ ?_
  refine xAll_cons (p := fun e : Nat × (Nat × Nat × FieldType × Nat) => xGf "CapKernel" xT False e.1 e.2) ⟨"CapKernel$Client", TC2, 19, tC2, rfl, by decide, inC2, wd_227, okC2, rfl, nmC2, fun _ => rfl, fun h => absurd rfl h⟩ ?_
  refine xAll_cons (p := fun e : Nat × (Nat × Nat × FieldType × Nat) => xGf "CapKernel" xT False e.1 e.2) ⟨"CapKernel$Client", TC2, 19, tC2, rfl, by decide, inC2, wd_213, okC2, rfl, nmC2, fun h => absurd h (by decide), fun _ => Or.inl rfl⟩ ?_
  refine xAll_cons (p := fun e : Nat × (Nat × Nat × FieldType × Nat) => xGf "CapKernel" xT False e.1 e.2) ⟨"CapKernel$Client", TC2, 19, tC2, rfl, by decide, inC2, wd_215, okC2, rfl, nmC2, fun h => absurd h (by decide), fun _ => Or.inl rfl⟩ ?_
  refine xAll_cons (p := fun e : Nat × (Nat × Nat × FieldType × Nat) => xGf "CapKernel" xT False e.1 e.2) ⟨"CapKernel$Capability", TC1, 7, tC1, rfl, by decide, inC1, wd_296, okC1, rfl, nmC1, fun h => absurd h (by decide), fun _ => Or.inl rfl⟩ ?_
  refine xAll_cons (p := fun e : Nat × (Nat × Nat × FieldType × Nat) => xGf "CapKernel" xT False e.1 e.2) ⟨"CapKernel$Capability", TC1, 7, tC1, rfl, by decide, inC1, wd_292, okC1, rfl, nmC1, fun h => absurd h (by decide), fun _ => Or.inl rfl⟩ ?_
  refine xAll_cons (p := fun e : Nat × (Nat × Nat × FieldType × Nat) => xGf "CapKernel" xT False e.1 e.2) ⟨"CapKernel$Thing", TC5, 11, tC5, rfl, by decide, inC5, wd_123, okC5, rfl, nmC5, fun h => absurd h (by decide), fun _ => Or.inl rfl⟩ ?_
  refine xAll_cons (p := fun e : Nat × (Nat × Nat × FieldType × Nat) => xGf "CapKernel" xT False e.1 e.2) ⟨"CapKernel$Thing", TC5, 11, tC5, rfl, by decide, inC5, wd_136, okC5, rfl, nmC5, fun _ => rfl, fun h => absurd rfl h⟩ ?_
  refine xAll_cons (p := fun e : Nat × (Nat × Nat × FieldType × Nat) => xGf "CapKernel" xT False e.1 e.2) ⟨"CapKernel$Thing", TC5, 11, tC5, rfl, by decide, inC5, wd_132, okC5, rfl, nmC5, fun _ => rfl, fun h => absurd rfl h⟩ ?_
  refine xAll_cons (p := fun e : Nat × (Nat × Nat × FieldType × Nat) => xGf "CapKernel" xT False e.1 e.2) ⟨"CapKernel$Thing", TC5, 11, tC5, rfl, by decide, inC5, wd_125, okC5, rfl, nmC5, fun h => absurd h (by decide), fun _ => Or.inl rfl⟩ ?_
  refine xAll_cons (p := fun e : Nat × (Nat × Nat × FieldType × Nat) => xGf "CapKernel" xT False e.1 e.2) ⟨"CapKernel", TC0, 7, tC0, rfl, by decide, inC0, wd_396, okC0, rfl, nmC0, fun _ => rfl, fun h => absurd rfl h⟩ ?_
  refine xAll_cons (p := fun e : Nat × (Nat × Nat × FieldType × Nat) => xGf "CapKernel" xT False e.1 e.2) ⟨"CapKernel$Thing", TC5, 11, tC5, rfl, by decide, inC5, wd_130, okC5, rfl, nmC5, fun _ => rfl, fun h => absurd rfl h⟩ ?_
  refine xAll_cons (p := fun e : Nat × (Nat × Nat × FieldType × Nat) => xGf "CapKernel" xT False e.1 e.2) ⟨"CapKernel$Thing", TC5, 11, tC5, rfl, by decide, inC5, wd_127, okC5, rfl, nmC5, fun h => absurd h (by decide), fun _ => Or.inl rfl⟩ ?_
  refine xAll_cons (p := fun e : Nat × (Nat × Nat × FieldType × Nat) => xGf "CapKernel" xT False e.1 e.2) ⟨"CapKernel$Client", TC2, 19, tC2, rfl, by decide, inC2, wd_239, okC2, rfl, nmC2, fun _ => rfl, fun h => absurd rfl h⟩ ?_
  refine xAll_cons (p := fun e : Nat × (Nat × Nat × FieldType × Nat) => xGf "CapKernel" xT False e.1 e.2) ⟨"CapKernel$Client", TC2, 19, tC2, rfl, by decide, inC2, wd_237, okC2, rfl, nmC2, fun _ => rfl, fun h => absurd rfl h⟩ ?_
  refine xAll_cons (p := fun e : Nat × (Nat × Nat × FieldType × Nat) => xGf "CapKernel" xT False e.1 e.2) ⟨"CapKernel$Client", TC2, 19, tC2, rfl, by decide, inC2, wd_238, okC2, rfl, nmC2, fun _ => rfl, fun h => absurd rfl h⟩ ?_
  refine xAll_cons (p := fun e : Nat × (Nat × Nat × FieldType × Nat) => xGf "CapKernel" xT False e.1 e.2) ⟨"CapKernel$Client", TC2, 19, tC2, rfl, by decide, inC2, wd_216, okC2, rfl, nmC2, fun _ => rfl, fun h => absurd rfl h⟩ ?_
  refine xAll_cons (p := fun e : Nat × (Nat × Nat × FieldType × Nat) => xGf "CapKernel" xT False e.1 e.2) ⟨"CapKernel$Client", TC2, 19, tC2, rfl, by decide, inC2, wd_218, okC2, rfl, nmC2, fun _ => rfl, fun h => absurd rfl h⟩ ?_
  refine xAll_cons (p := fun e : Nat × (Nat × Nat × FieldType × Nat) => xGf "CapKernel" xT False e.1 e.2) ⟨"CapKernel$Client", TC2, 19, tC2, rfl, by decide, inC2, wd_240, okC2, rfl, nmC2, fun _ => rfl, fun h => absurd rfl h⟩ ?_
  refine xAll_cons (p := fun e : Nat × (Nat × Nat × FieldType × Nat) => xGf "CapKernel" xT False e.1 e.2) ⟨"CapKernel$Client", TC2, 19, tC2, rfl, by decide, inC2, wd_241, okC2, rfl, nmC2, fun _ => rfl, fun h => absurd rfl h⟩ ?_
  refine xAll_cons (p := fun e : Nat × (Nat × Nat × FieldType × Nat) => xGf "CapKernel" xT False e.1 e.2) ⟨"CapKernel$Thing", TC5, 11, tC5, rfl, by decide, inC5, wd_134, okC5, rfl, nmC5, fun _ => rfl, fun h => absurd rfl h⟩ ?_
  refine xAll_cons (p := fun e : Nat × (Nat × Nat × FieldType × Nat) => xGf "CapKernel" xT False e.1 e.2) ⟨"CapKernel$Client", TC2, 19, tC2, rfl, by decide, inC2, wd_226, okC2, rfl, nmC2, fun _ => rfl, fun h => absurd rfl h⟩ ?_
  refine xAll_cons (p := fun e : Nat × (Nat × Nat × FieldType × Nat) => xGf "CapKernel" xT False e.1 e.2) ⟨"CapKernel$Client", TC2, 19, tC2, rfl, by decide, inC2, wd_220, okC2, rfl, nmC2, fun _ => rfl, fun h => absurd rfl h⟩ ?_
  refine xAll_cons (p := fun e : Nat × (Nat × Nat × FieldType × Nat) => xGf "CapKernel" xT False e.1 e.2) ⟨"CapKernel$Client", TC2, 19, tC2, rfl, by decide, inC2, wd_222, okC2, rfl, nmC2, fun _ => rfl, fun h => absurd rfl h⟩ ?_
  refine xAll_cons (p := fun e : Nat × (Nat × Nat × FieldType × Nat) => xGf "CapKernel" xT False e.1 e.2) ⟨"CapKernel$Client", TC2, 19, tC2, rfl, by decide, inC2, wd_224, okC2, rfl, nmC2, fun _ => rfl, fun h => absurd rfl h⟩ ?_
  refine xAll_cons (p := fun e : Nat × (Nat × Nat × FieldType × Nat) => xGf "CapKernel" xT False e.1 e.2) ⟨"CapKernel$Capability", TC1, 7, tC1, rfl, by decide, inC1, wd_294, okC1, rfl, nmC1, fun h => absurd h (by decide), fun _ => Or.inl rfl⟩ ?_
  refine xAll_cons (p := fun e : Nat × (Nat × Nat × FieldType × Nat) => xGf "CapKernel" xT False e.1 e.2) ⟨"CapKernel", TC0, 7, tC0, rfl, by decide, inC0, wd_397, okC0, rfl, nmC0, fun _ => rfl, fun h => absurd rfl h⟩ ?_
  refine xAll_cons (p := fun e : Nat × (Nat × Nat × FieldType × Nat) => xGf "CapKernel" xT False e.1 e.2) ⟨"CapKernel$FileServer", TC4, 5, tC4, rfl, by decide, inC4, wd_188, okC4, rfl, nmC4, fun h => absurd h (by decide), fun _ => Or.inl rfl⟩ ?_
  refine xAll_cons (p := fun e : Nat × (Nat × Nat × FieldType × Nat) => xGf "CapKernel" xT False e.1 e.2) ⟨"CapKernel$Driver", TC3, 3, tC3, rfl, by decide, inC3, wd_176, okC3, rfl, nmC3, fun _ => rfl, fun h => absurd rfl h⟩ ?_
  refine xAll_cons (p := fun e : Nat × (Nat × Nat × FieldType × Nat) => xGf "CapKernel" xT False e.1 e.2) ⟨"CapKernel$Driver", TC3, 3, tC3, rfl, by decide, inC3, wd_178, okC3, rfl, nmC3, fun _ => rfl, fun h => absurd rfl h⟩ ?_
  refine xAll_cons (p := fun e : Nat × (Nat × Nat × FieldType × Nat) => xGf "CapKernel" xT False e.1 e.2) ⟨"CapKernel$Thing", TC5, 11, tC5, rfl, by decide, inC5, wd_135, okC5, rfl, nmC5, fun _ => rfl, fun h => absurd rfl h⟩ ?_
  refine xAll_cons (p := fun e : Nat × (Nat × Nat × FieldType × Nat) => xGf "CapKernel" xT False e.1 e.2) ⟨"CapKernel$Thing", TC5, 11, tC5, rfl, by decide, inC5, wd_138, okC5, rfl, nmC5, fun _ => rfl, fun h => absurd rfl h⟩ ?_
  refine xAll_cons (p := fun e : Nat × (Nat × Nat × FieldType × Nat) => xGf "CapKernel" xT False e.1 e.2) ⟨"CapKernel$Capability", TC1, 7, tC1, rfl, by decide, inC1, wd_301, okC1, rfl, nmC1, fun _ => rfl, fun h => absurd rfl h⟩ ?_
  refine xAll_cons (p := fun e : Nat × (Nat × Nat × FieldType × Nat) => xGf "CapKernel" xT False e.1 e.2) ⟨"CapKernel$Capability", TC1, 7, tC1, rfl, by decide, inC1, wd_298, okC1, rfl, nmC1, fun _ => rfl, fun h => absurd rfl h⟩ ?_
  refine xAll_cons (p := fun e : Nat × (Nat × Nat × FieldType × Nat) => xGf "CapKernel" xT False e.1 e.2) ⟨"CapKernel$Thing", TC5, 11, tC5, rfl, by decide, inC5, wd_137, okC5, rfl, nmC5, fun _ => rfl, fun h => absurd rfl h⟩ ?_
  refine xAll_cons (p := fun e : Nat × (Nat × Nat × FieldType × Nat) => xGf "CapKernel" xT False e.1 e.2) ⟨"CapKernel$Thing", TC5, 11, tC5, rfl, by decide, inC5, wd_129, okC5, rfl, nmC5, fun h => absurd h (by decide), fun _ => Or.inl rfl⟩ ?_
  refine xAll_cons (p := fun e : Nat × (Nat × Nat × FieldType × Nat) => xGf "CapKernel" xT False e.1 e.2) ⟨"CapKernel", TC0, 7, tC0, rfl, by decide, inC0, wd_398, okC0, rfl, nmC0, fun _ => rfl, fun h => absurd rfl h⟩ ?_
  refine xAll_cons (p := fun e : Nat × (Nat × Nat × FieldType × Nat) => xGf "CapKernel" xT False e.1 e.2) ⟨"CapKernel$Client", TC2, 19, tC2, rfl, by decide, inC2, wd_230, okC2, rfl, nmC2, fun _ => rfl, fun h => absurd rfl h⟩ ?_
  refine xAll_cons (p := fun e : Nat × (Nat × Nat × FieldType × Nat) => xGf "CapKernel" xT False e.1 e.2) ⟨"CapKernel$Client", TC2, 19, tC2, rfl, by decide, inC2, wd_229, okC2, rfl, nmC2, fun _ => rfl, fun h => absurd rfl h⟩ ?_
  refine xAll_cons (p := fun e : Nat × (Nat × Nat × FieldType × Nat) => xGf "CapKernel" xT False e.1 e.2) ⟨"CapKernel$Client", TC2, 19, tC2, rfl, by decide, inC2, wd_236, okC2, rfl, nmC2, fun _ => rfl, fun h => absurd rfl h⟩ ?_
  refine xAll_cons (p := fun e : Nat × (Nat × Nat × FieldType × Nat) => xGf "CapKernel" xT False e.1 e.2) ⟨"CapKernel$Client", TC2, 19, tC2, rfl, by decide, inC2, wd_232, okC2, rfl, nmC2, fun _ => rfl, fun h => absurd rfl h⟩ ?_
  refine xAll_cons (p := fun e : Nat × (Nat × Nat × FieldType × Nat) => xGf "CapKernel" xT False e.1 e.2) ⟨"CapKernel$Client", TC2, 19, tC2, rfl, by decide, inC2, wd_234, okC2, rfl, nmC2, fun _ => rfl, fun h => absurd rfl h⟩ ?_
  exact xAll_nil
def fi_K : List (Nat × (Nat × Nat × FieldType × Nat)) := [(11, (0, 0, .array (.object "CapKernel$Client"), 2)), (18, (0, 6, .object "java/util/ArrayList", 2)), (27, (0, 1, .object "CapKernel$Thing", 2)), (34, (0, 2, .object "CapKernel$FileServer", 2)), (45, (2, 8, .int, 1)), (51, (2, 0, .int, 0)), (57, (2, 1, .object "CapKernel$Thing", 0)), (98, (1, 2, .int, 0)), (105, (1, 0, .object "CapKernel$Thing", 0)), (108, (5, 0, .int, 0)), (129, (5, 8, .int, 1)), (132, (5, 5, .int, 1)), (139, (5, 1, .int, 0)), (142, (0, 3, .int, 1)), (149, (5, 4, .int, 1)), (150, (5, 2, .int, 0)), (180, (2, 16, .int, 1)), (186, (2, 14, .object "CapKernel$Thing", 1)), (189, (2, 15, .int, 1)), (195, (2, 2, .int, 1)), (198, (2, 3, .int, 1)), (201, (2, 17, .object "CapKernel$Client", 1)), (205, (2, 18, .int, 1)), (211, (5, 6, .int, 1)), (231, (2, 7, .int, 1)), (237, (2, 4, .int, 1)), (240, (2, 5, .int, 1)), (241, (2, 6, .int, 1)), (244, (1, 1, .int, 0)), (255, (0, 4, .int, 1)), (258, (4, 0, .object "CapKernel$Driver", 0)), (262, (3, 1, .int, 1)), (267, (3, 2, .int, 1)), (289, (5, 7, .int, 1)), (296, (5, 10, .object "CapKernel$Thing", 1)), (299, (1, 6, .boolean, 1)), (326, (1, 3, .object "CapKernel$Capability", 1)), (330, (5, 9, .boolean, 1)), (335, (5, 3, .array (.object "CapKernel$Capability"), 0)), (339, (0, 5, .int, 1)), (346, (2, 10, .object "CapKernel$Thing", 1)), (349, (2, 9, .int, 1)), (352, (2, 13, .object "CapKernel$Capability", 1)), (359, (2, 11, .int, 1)), (362, (2, 12, .int, 1))]
theorem gfi_K : ∀ e ∈ fi_K, xGf "CapKernel" xT True e.1 e.2 := by
  unfold fi_K
  refine xAll_cons (p := fun e : Nat × (Nat × Nat × FieldType × Nat) => xGf "CapKernel" xT True e.1 e.2) ⟨"CapKernel", TC0, 7, tC0, rfl, by decide, inC0, wd_392, okC0, rfl, nmC0, fun h => absurd h (by decide), fun _ => Or.inr ⟨rfl, rfl, trivial⟩⟩ ?_
  refine xAll_cons (p := fun e : Nat × (Nat × Nat × FieldType × Nat) => xGf "CapKernel" xT True e.1 e.2) ⟨"CapKernel", TC0, 7, tC0, rfl, by decide, inC0, wd_393, okC0, rfl, nmC0, fun h => absurd h (by decide), fun _ => Or.inr ⟨rfl, rfl, trivial⟩⟩ ?_
  refine xAll_cons (p := fun e : Nat × (Nat × Nat × FieldType × Nat) => xGf "CapKernel" xT True e.1 e.2) ⟨"CapKernel", TC0, 7, tC0, rfl, by decide, inC0, wd_394, okC0, rfl, nmC0, fun h => absurd h (by decide), fun _ => Or.inr ⟨rfl, rfl, trivial⟩⟩ ?_
  refine xAll_cons (p := fun e : Nat × (Nat × Nat × FieldType × Nat) => xGf "CapKernel" xT True e.1 e.2) ⟨"CapKernel", TC0, 7, tC0, rfl, by decide, inC0, wd_395, okC0, rfl, nmC0, fun h => absurd h (by decide), fun _ => Or.inr ⟨rfl, rfl, trivial⟩⟩ ?_
  refine xAll_cons (p := fun e : Nat × (Nat × Nat × FieldType × Nat) => xGf "CapKernel" xT True e.1 e.2) ⟨"CapKernel$Client", TC2, 19, tC2, rfl, by decide, inC2, wd_227, okC2, rfl, nmC2, fun _ => rfl, fun h => absurd rfl h⟩ ?_
  refine xAll_cons (p := fun e : Nat × (Nat × Nat × FieldType × Nat) => xGf "CapKernel" xT True e.1 e.2) ⟨"CapKernel$Client", TC2, 19, tC2, rfl, by decide, inC2, wd_213, okC2, rfl, nmC2, fun h => absurd h (by decide), fun _ => Or.inl rfl⟩ ?_
  refine xAll_cons (p := fun e : Nat × (Nat × Nat × FieldType × Nat) => xGf "CapKernel" xT True e.1 e.2) ⟨"CapKernel$Client", TC2, 19, tC2, rfl, by decide, inC2, wd_215, okC2, rfl, nmC2, fun h => absurd h (by decide), fun _ => Or.inl rfl⟩ ?_
  refine xAll_cons (p := fun e : Nat × (Nat × Nat × FieldType × Nat) => xGf "CapKernel" xT True e.1 e.2) ⟨"CapKernel$Capability", TC1, 7, tC1, rfl, by decide, inC1, wd_296, okC1, rfl, nmC1, fun h => absurd h (by decide), fun _ => Or.inl rfl⟩ ?_
  refine xAll_cons (p := fun e : Nat × (Nat × Nat × FieldType × Nat) => xGf "CapKernel" xT True e.1 e.2) ⟨"CapKernel$Capability", TC1, 7, tC1, rfl, by decide, inC1, wd_292, okC1, rfl, nmC1, fun h => absurd h (by decide), fun _ => Or.inl rfl⟩ ?_
  refine xAll_cons (p := fun e : Nat × (Nat × Nat × FieldType × Nat) => xGf "CapKernel" xT True e.1 e.2) ⟨"CapKernel$Thing", TC5, 11, tC5, rfl, by decide, inC5, wd_123, okC5, rfl, nmC5, fun h => absurd h (by decide), fun _ => Or.inl rfl⟩ ?_
  refine xAll_cons (p := fun e : Nat × (Nat × Nat × FieldType × Nat) => xGf "CapKernel" xT True e.1 e.2) ⟨"CapKernel$Thing", TC5, 11, tC5, rfl, by decide, inC5, wd_136, okC5, rfl, nmC5, fun _ => rfl, fun h => absurd rfl h⟩ ?_
  refine xAll_cons (p := fun e : Nat × (Nat × Nat × FieldType × Nat) => xGf "CapKernel" xT True e.1 e.2) ⟨"CapKernel$Thing", TC5, 11, tC5, rfl, by decide, inC5, wd_132, okC5, rfl, nmC5, fun _ => rfl, fun h => absurd rfl h⟩ ?_
  refine xAll_cons (p := fun e : Nat × (Nat × Nat × FieldType × Nat) => xGf "CapKernel" xT True e.1 e.2) ⟨"CapKernel$Thing", TC5, 11, tC5, rfl, by decide, inC5, wd_125, okC5, rfl, nmC5, fun h => absurd h (by decide), fun _ => Or.inl rfl⟩ ?_
  refine xAll_cons (p := fun e : Nat × (Nat × Nat × FieldType × Nat) => xGf "CapKernel" xT True e.1 e.2) ⟨"CapKernel", TC0, 7, tC0, rfl, by decide, inC0, wd_396, okC0, rfl, nmC0, fun _ => rfl, fun h => absurd rfl h⟩ ?_
  refine xAll_cons (p := fun e : Nat × (Nat × Nat × FieldType × Nat) => xGf "CapKernel" xT True e.1 e.2) ⟨"CapKernel$Thing", TC5, 11, tC5, rfl, by decide, inC5, wd_130, okC5, rfl, nmC5, fun _ => rfl, fun h => absurd rfl h⟩ ?_
  refine xAll_cons (p := fun e : Nat × (Nat × Nat × FieldType × Nat) => xGf "CapKernel" xT True e.1 e.2) ⟨"CapKernel$Thing", TC5, 11, tC5, rfl, by decide, inC5, wd_127, okC5, rfl, nmC5, fun h => absurd h (by decide), fun _ => Or.inl rfl⟩ ?_
  refine xAll_cons (p := fun e : Nat × (Nat × Nat × FieldType × Nat) => xGf "CapKernel" xT True e.1 e.2) ⟨"CapKernel$Client", TC2, 19, tC2, rfl, by decide, inC2, wd_239, okC2, rfl, nmC2, fun _ => rfl, fun h => absurd rfl h⟩ ?_
  refine xAll_cons (p := fun e : Nat × (Nat × Nat × FieldType × Nat) => xGf "CapKernel" xT True e.1 e.2) ⟨"CapKernel$Client", TC2, 19, tC2, rfl, by decide, inC2, wd_237, okC2, rfl, nmC2, fun _ => rfl, fun h => absurd rfl h⟩ ?_
  refine xAll_cons (p := fun e : Nat × (Nat × Nat × FieldType × Nat) => xGf "CapKernel" xT True e.1 e.2) ⟨"CapKernel$Client", TC2, 19, tC2, rfl, by decide, inC2, wd_238, okC2, rfl, nmC2, fun _ => rfl, fun h => absurd rfl h⟩ ?_
  refine xAll_cons (p := fun e : Nat × (Nat × Nat × FieldType × Nat) => xGf "CapKernel" xT True e.1 e.2) ⟨"CapKernel$Client", TC2, 19, tC2, rfl, by decide, inC2, wd_216, okC2, rfl, nmC2, fun _ => rfl, fun h => absurd rfl h⟩ ?_
  refine xAll_cons (p := fun e : Nat × (Nat × Nat × FieldType × Nat) => xGf "CapKernel" xT True e.1 e.2) ⟨"CapKernel$Client", TC2, 19, tC2, rfl, by decide, inC2, wd_218, okC2, rfl, nmC2, fun _ => rfl, fun h => absurd rfl h⟩ ?_
  refine xAll_cons (p := fun e : Nat × (Nat × Nat × FieldType × Nat) => xGf "CapKernel" xT True e.1 e.2) ⟨"CapKernel$Client", TC2, 19, tC2, rfl, by decide, inC2, wd_240, okC2, rfl, nmC2, fun _ => rfl, fun h => absurd rfl h⟩ ?_
  refine xAll_cons (p := fun e : Nat × (Nat × Nat × FieldType × Nat) => xGf "CapKernel" xT True e.1 e.2) ⟨"CapKernel$Client", TC2, 19, tC2, rfl, by decide, inC2, wd_241, okC2, rfl, nmC2, fun _ => rfl, fun h => absurd rfl h⟩ ?_
  refine xAll_cons (p := fun e : Nat × (Nat × Nat × FieldType × Nat) => xGf "CapKernel" xT True e.1 e.2) ⟨"CapKernel$Thing", TC5, 11, tC5, rfl, by decide, inC5, wd_134, okC5, rfl, nmC5, fun _ => rfl, fun h => absurd rfl h⟩ ?_
  refine xAll_cons (p := fun e : Nat × (Nat × Nat × FieldType × Nat) => xGf "CapKernel" xT True e.1 e.2) ⟨"CapKernel$Client", TC2, 19, tC2, rfl, by decide, inC2, wd_226, okC2, rfl, nmC2, fun _ => rfl, fun h => absurd rfl h⟩ ?_
  refine xAll_cons (p := fun e : Nat × (Nat × Nat × FieldType × Nat) => xGf "CapKernel" xT True e.1 e.2) ⟨"CapKernel$Client", TC2, 19, tC2, rfl, by decide, inC2, wd_220, okC2, rfl, nmC2, fun _ => rfl, fun h => absurd rfl h⟩ ?_
  refine xAll_cons (p := fun e : Nat × (Nat × Nat × FieldType × Nat) => xGf "CapKernel" xT True e.1 e.2) ⟨"CapKernel$Client", TC2, 19, tC2, rfl, by decide, inC2, wd_222, okC2, rfl, nmC2, fun _ => rfl, fun h => absurd rfl h⟩ ?_
  refine xAll_cons (p := fun e : Nat × (Nat × Nat × FieldType × Nat) => xGf "CapKernel" xT True e.1 e.2) ⟨"CapKernel$Client", TC2, 19, tC2, rfl, by decide, inC2, wd_224, okC2, rfl, nmC2, fun _ => rfl, fun h => absurd rfl h⟩ ?_
  refine xAll_cons (p := fun e : Nat × (Nat × Nat × FieldType × Nat) => xGf "CapKernel" xT True e.1 e.2) ⟨"CapKernel$Capability", TC1, 7, tC1, rfl, by decide, inC1, wd_294, okC1, rfl, nmC1, fun h => absurd h (by decide), fun _ => Or.inl rfl⟩ ?_
  refine xAll_cons (p := fun e : Nat × (Nat × Nat × FieldType × Nat) => xGf "CapKernel" xT True e.1 e.2) ⟨"CapKernel", TC0, 7, tC0, rfl, by decide, inC0, wd_397, okC0, rfl, nmC0, fun _ => rfl, fun h => absurd rfl h⟩ ?_
  refine xAll_cons (p := fun e : Nat × (Nat × Nat × FieldType × Nat) => xGf "CapKernel" xT True e.1 e.2) ⟨"CapKernel$FileServer", TC4, 5, tC4, rfl, by decide, inC4, wd_188, okC4, rfl, nmC4, fun h => absurd h (by decide), fun _ => Or.inl rfl⟩ ?_
  refine xAll_cons (p := fun e : Nat × (Nat × Nat × FieldType × Nat) => xGf "CapKernel" xT True e.1 e.2) ⟨"CapKernel$Driver", TC3, 3, tC3, rfl, by decide, inC3, wd_176, okC3, rfl, nmC3, fun _ => rfl, fun h => absurd rfl h⟩ ?_
  refine xAll_cons (p := fun e : Nat × (Nat × Nat × FieldType × Nat) => xGf "CapKernel" xT True e.1 e.2) ⟨"CapKernel$Driver", TC3, 3, tC3, rfl, by decide, inC3, wd_178, okC3, rfl, nmC3, fun _ => rfl, fun h => absurd rfl h⟩ ?_
  refine xAll_cons (p := fun e : Nat × (Nat × Nat × FieldType × Nat) => xGf "CapKernel" xT True e.1 e.2) ⟨"CapKernel$Thing", TC5, 11, tC5, rfl, by decide, inC5, wd_135, okC5, rfl, nmC5, fun _ => rfl, fun h => absurd rfl h⟩ ?_
  refine xAll_cons (p := fun e : Nat × (Nat × Nat × FieldType × Nat) => xGf "CapKernel" xT True e.1 e.2) ⟨"CapKernel$Thing", TC5, 11, tC5, rfl, by decide, inC5, wd_138, okC5, rfl, nmC5, fun _ => rfl, fun h => absurd rfl h⟩ ?_
  refine xAll_cons (p := fun e : Nat × (Nat × Nat × FieldType × Nat) => xGf "CapKernel" xT True e.1 e.2) ⟨"CapKernel$Capability", TC1, 7, tC1, rfl, by decide, inC1, wd_301, okC1, rfl, nmC1, fun _ => rfl, fun h => absurd rfl h⟩ ?_
  refine xAll_cons (p := fun e : Nat × (Nat × Nat × FieldType × Nat) => xGf "CapKernel" xT True e.1 e.2) ⟨"CapKernel$Capability", TC1, 7, tC1, rfl, by decide, inC1, wd_298, okC1, rfl, nmC1, fun _ => rfl, fun h => absurd rfl h⟩ ?_
  refine xAll_cons (p := fun e : Nat × (Nat × Nat × FieldType × Nat) => xGf "CapKernel" xT True e.1 e.2) ⟨"CapKernel$Thing", TC5, 11, tC5, rfl, by decide, inC5, wd_137, okC5, rfl, nmC5, fun _ => rfl, fun h => absurd rfl h⟩ ?_
  refine xAll_cons (p := fun e : Nat × (Nat × Nat × FieldType × Nat) => xGf "CapKernel" xT True e.1 e.2) ⟨"CapKernel$Thing", TC5, 11, tC5, rfl, by decide, inC5, wd_129, okC5, rfl, nmC5, fun h => absurd h (by decide), fun _ => Or.inl rfl⟩ ?_
  refine xAll_cons (p := fun e : Nat × (Nat × Nat × FieldType × Nat) => xGf "CapKernel" xT True e.1 e.2) ⟨"CapKernel", TC0, 7, tC0, rfl, by decide, inC0, wd_398, okC0, rfl, nmC0, fun _ => rfl, fun h => absurd rfl h⟩ ?_
  refine xAll_cons (p := fun e : Nat × (Nat × Nat × FieldType × Nat) => xGf "CapKernel" xT True e.1 e.2) ⟨"CapKernel$Client", TC2, 19, tC2, rfl, by decide, inC2, wd_230, okC2, rfl, nmC2, fun _ => rfl, fun h => absurd rfl h⟩ ?_
  refine xAll_cons (p := fun e : Nat × (Nat × Nat × FieldType × Nat) => xGf "CapKernel" xT True e.1 e.2) ⟨"CapKernel$Client", TC2, 19, tC2, rfl, by decide, inC2, wd_229, okC2, rfl, nmC2, fun _ => rfl, fun h => absurd rfl h⟩ ?_
  refine xAll_cons (p := fun e : Nat × (Nat × Nat × FieldType × Nat) => xGf "CapKernel" xT True e.1 e.2) ⟨"CapKernel$Client", TC2, 19, tC2, rfl, by decide, inC2, wd_236, okC2, rfl, nmC2, fun _ => rfl, fun h => absurd rfl h⟩ ?_
  refine xAll_cons (p := fun e : Nat × (Nat × Nat × FieldType × Nat) => xGf "CapKernel" xT True e.1 e.2) ⟨"CapKernel$Client", TC2, 19, tC2, rfl, by decide, inC2, wd_232, okC2, rfl, nmC2, fun _ => rfl, fun h => absurd rfl h⟩ ?_
  refine xAll_cons (p := fun e : Nat × (Nat × Nat × FieldType × Nat) => xGf "CapKernel" xT True e.1 e.2) ⟨"CapKernel$Client", TC2, 19, tC2, rfl, by decide, inC2, wd_234, okC2, rfl, nmC2, fun _ => rfl, fun h => absurd rfl h⟩ ?_
  exact xAll_nil
def nw_K : List (Nat × (Nat × List Value)) := [(9, (2, [.int 0, .null, .int 0, .int 0, .int 0, .int 0, .int 0, .int 0, .int 0, .int 0, .null, .int 0, .int 0, .null, .null, .int 0, .int 0, .null, .int 0])), (15, (7, [.null, .int 0, .int 0])), (22, (5, [.int 0, .int 0, .int 0, .null, .int 0, .int 0, .int 0, .int 0, .int 0, .int 0, .null])), (31, (4, [.null, .null, .null, .null, .null])), (49, (1, [.null, .int 0, .int 0, .null, .null, .int 0, .int 0])), (208, (11, [.null, .null, .int 0, .null, .null, .null])), (273, (8, [.null, .null, .int 0, .null, .null, .null])), (276, (10, [.null, .null, .int 0, .null, .null, .null])), (286, (9, [.null, .null, .int 0, .null, .null, .null]))]
theorem gnw_K : ∀ e ∈ nw_K, xGn "CapKernel" xT e.1 e.2 := by
  unfold nw_K
  refine xAll_cons (p := fun e : Nat × (Nat × List Value) => xGn "CapKernel" xT e.1 e.2) ⟨"CapKernel$Client", TC2, 19, tC2, rfl, inC2, okC2, wd_86, wd_205, wd_62, by decide +kernel, rfl⟩ ?_
  refine xAll_cons (p := fun e : Nat × (Nat × List Value) => xGn "CapKernel" xT e.1 e.2) ⟨"java/util/ArrayList", TC7, 3, tC7, rfl, inC7, okC7, wd_88, wd_89, wd_58, by decide +kernel, rfl⟩ ?_
  refine xAll_cons (p := fun e : Nat × (Nat × List Value) => xGn "CapKernel" xT e.1 e.2) ⟨"CapKernel$Thing", TC5, 11, tC5, rfl, inC5, okC5, wd_114, wd_115, wd_59, by decide +kernel, rfl⟩ ?_
  refine xAll_cons (p := fun e : Nat × (Nat × List Value) => xGn "CapKernel" xT e.1 e.2) ⟨"CapKernel$FileServer", TC4, 5, tC4, rfl, inC4, okC4, wd_162, wd_163, wd_60, by decide +kernel, rfl⟩ ?_
  refine xAll_cons (p := fun e : Nat × (Nat × List Value) => xGn "CapKernel" xT e.1 e.2) ⟨"CapKernel$Capability", TC1, 7, tC1, rfl, inC1, okC1, wd_285, wd_286, wd_63, by decide +kernel, rfl⟩ ?_
  refine xAll_cons (p := fun e : Nat × (Nat × List Value) => xGn "CapKernel" xT e.1 e.2) ⟨"java/lang/IllegalStateException", TC11, 6, tC11, rfl, inC11, okC11, wd_453, wd_454, wd_72, by decide +kernel, rfl⟩ ?_
  refine xAll_cons (p := fun e : Nat × (Nat × List Value) => xGn "CapKernel" xT e.1 e.2) ⟨"java/lang/IllegalArgumentException", TC8, 6, tC8, rfl, inC8, okC8, wd_526, wd_527, wd_73, by decide +kernel, rfl⟩ ?_
  refine xAll_cons (p := fun e : Nat × (Nat × List Value) => xGn "CapKernel" xT e.1 e.2) ⟨"java/lang/UnsupportedOperationException", TC10, 6, tC10, rfl, inC10, okC10, wd_687, wd_688, wd_77, by decide +kernel, rfl⟩ ?_
  refine xAll_cons (p := fun e : Nat × (Nat × List Value) => xGn "CapKernel" xT e.1 e.2) ⟨"java/util/NoSuchElementException", TC9, 6, tC9, rfl, inC9, okC9, wd_554, wd_555, wd_74, by decide +kernel, rfl⟩ ?_
  exact xAll_nil
def an_K : List (Nat × Nat) := [(9, 3)]
theorem gan_K : ∀ e ∈ an_K, xGa "CapKernel" xT e.1 e.2 := by
  unfold an_K
  refine xAll_cons (p := fun e : Nat × Nat => xGa "CapKernel" xT e.1 e.2) ⟨"CapKernel$Client", rfl, wd_86⟩ ?_
  exact xAll_nil
def cs_K : List (Nat × Nat) := [(49, 1)]
theorem gcs_K : ∀ e ∈ cs_K, xGc "CapKernel" xT e.1 e.2 := by
  unfold cs_K
  refine xAll_cons (p := fun e : Nat × Nat => xGc "CapKernel" xT e.1 e.2) ⟨("CapKernel$Capability", TC1, 7), rfl, wd_285⟩ ?_
  exact xAll_nil
def fl_C : List (Nat × (Nat × Nat × FieldType × Nat)) := [(7, (1, 0, .object "CapKernel$Thing", 0)), (13, (1, 1, .int, 0)), (17, (1, 2, .int, 0)), (20, (1, 3, .object "CapKernel$Capability", 1)), (24, (1, 4, .object "CapKernel$Thing", 1)), (27, (1, 5, .int, 1))]
theorem gfl_C : ∀ e ∈ fl_C, xGf "CapKernel$Capability" xT False e.1 e.2 := by
  unfold fl_C
  refine xAll_cons (p := fun e : Nat × (Nat × Nat × FieldType × Nat) => xGf "CapKernel$Capability" xT False e.1 e.2) ⟨"CapKernel$Capability", TC1, 7, tC1, rfl, by decide, inC1, wd_291, okC1, rfl, nmC1, fun h => absurd h (by decide), fun _ => Or.inl rfl⟩ ?_
  refine xAll_cons (p := fun e : Nat × (Nat × Nat × FieldType × Nat) => xGf "CapKernel$Capability" xT False e.1 e.2) ⟨"CapKernel$Capability", TC1, 7, tC1, rfl, by decide, inC1, wd_293, okC1, rfl, nmC1, fun h => absurd h (by decide), fun _ => Or.inl rfl⟩ ?_
  refine xAll_cons (p := fun e : Nat × (Nat × Nat × FieldType × Nat) => xGf "CapKernel$Capability" xT False e.1 e.2) ⟨"CapKernel$Capability", TC1, 7, tC1, rfl, by decide, inC1, wd_295, okC1, rfl, nmC1, fun h => absurd h (by decide), fun _ => Or.inl rfl⟩ ?_
  refine xAll_cons (p := fun e : Nat × (Nat × Nat × FieldType × Nat) => xGf "CapKernel$Capability" xT False e.1 e.2) ⟨"CapKernel$Capability", TC1, 7, tC1, rfl, by decide, inC1, wd_297, okC1, rfl, nmC1, fun _ => rfl, fun h => absurd rfl h⟩ ?_
  refine xAll_cons (p := fun e : Nat × (Nat × Nat × FieldType × Nat) => xGf "CapKernel$Capability" xT False e.1 e.2) ⟨"CapKernel$Capability", TC1, 7, tC1, rfl, by decide, inC1, wd_299, okC1, rfl, nmC1, fun _ => rfl, fun h => absurd rfl h⟩ ?_
  refine xAll_cons (p := fun e : Nat × (Nat × Nat × FieldType × Nat) => xGf "CapKernel$Capability" xT False e.1 e.2) ⟨"CapKernel$Capability", TC1, 7, tC1, rfl, by decide, inC1, wd_300, okC1, rfl, nmC1, fun _ => rfl, fun h => absurd rfl h⟩ ?_
  exact xAll_nil
def fi_C : List (Nat × (Nat × Nat × FieldType × Nat)) := [(7, (1, 0, .object "CapKernel$Thing", 2)), (13, (1, 1, .int, 2)), (17, (1, 2, .int, 2)), (20, (1, 3, .object "CapKernel$Capability", 1)), (24, (1, 4, .object "CapKernel$Thing", 1)), (27, (1, 5, .int, 1))]
theorem gfi_C : ∀ e ∈ fi_C, xGf "CapKernel$Capability" xT True e.1 e.2 := by
  unfold fi_C
  refine xAll_cons (p := fun e : Nat × (Nat × Nat × FieldType × Nat) => xGf "CapKernel$Capability" xT True e.1 e.2) ⟨"CapKernel$Capability", TC1, 7, tC1, rfl, by decide, inC1, wd_291, okC1, rfl, nmC1, fun h => absurd h (by decide), fun _ => Or.inr ⟨rfl, rfl, trivial⟩⟩ ?_
  refine xAll_cons (p := fun e : Nat × (Nat × Nat × FieldType × Nat) => xGf "CapKernel$Capability" xT True e.1 e.2) ⟨"CapKernel$Capability", TC1, 7, tC1, rfl, by decide, inC1, wd_293, okC1, rfl, nmC1, fun h => absurd h (by decide), fun _ => Or.inr ⟨rfl, rfl, trivial⟩⟩ ?_
  refine xAll_cons (p := fun e : Nat × (Nat × Nat × FieldType × Nat) => xGf "CapKernel$Capability" xT True e.1 e.2) ⟨"CapKernel$Capability", TC1, 7, tC1, rfl, by decide, inC1, wd_295, okC1, rfl, nmC1, fun h => absurd h (by decide), fun _ => Or.inr ⟨rfl, rfl, trivial⟩⟩ ?_
  refine xAll_cons (p := fun e : Nat × (Nat × Nat × FieldType × Nat) => xGf "CapKernel$Capability" xT True e.1 e.2) ⟨"CapKernel$Capability", TC1, 7, tC1, rfl, by decide, inC1, wd_297, okC1, rfl, nmC1, fun _ => rfl, fun h => absurd rfl h⟩ ?_
  refine xAll_cons (p := fun e : Nat × (Nat × Nat × FieldType × Nat) => xGf "CapKernel$Capability" xT True e.1 e.2) ⟨"CapKernel$Capability", TC1, 7, tC1, rfl, by decide, inC1, wd_299, okC1, rfl, nmC1, fun _ => rfl, fun h => absurd rfl h⟩ ?_
  refine xAll_cons (p := fun e : Nat × (Nat × Nat × FieldType × Nat) => xGf "CapKernel$Capability" xT True e.1 e.2) ⟨"CapKernel$Capability", TC1, 7, tC1, rfl, by decide, inC1, wd_300, okC1, rfl, nmC1, fun _ => rfl, fun h => absurd rfl h⟩ ?_
  exact xAll_nil
def nw_C : List (Nat × (Nat × List Value)) := []
theorem gnw_C : ∀ e ∈ nw_C, xGn "CapKernel$Capability" xT e.1 e.2 := by
  unfold nw_C
  exact xAll_nil
def an_C : List (Nat × Nat) := []
theorem gan_C : ∀ e ∈ an_C, xGa "CapKernel$Capability" xT e.1 e.2 := by
  unfold an_C
  exact xAll_nil
def cs_C : List (Nat × Nat) := []
theorem gcs_C : ∀ e ∈ cs_C, xGc "CapKernel$Capability" xT e.1 e.2 := by
  unfold cs_C
  exact xAll_nil
def fl_L : List (Nat × (Nat × Nat × FieldType × Nat)) := [(9, (2, 0, .int, 0)), (20, (2, 1, .object "CapKernel$Thing", 0)), (24, (2, 7, .int, 1)), (27, (2, 8, .int, 1)), (30, (2, 11, .int, 1)), (33, (2, 12, .int, 1)), (36, (2, 13, .object "CapKernel$Capability", 1)), (40, (2, 3, .int, 1)), (43, (2, 4, .int, 1)), (46, (2, 5, .int, 1)), (49, (2, 6, .int, 1))]
theorem gfl_L : ∀ e ∈ fl_L, xGf "CapKernel$Client" xT False e.1 e.2 := by
  unfold fl_L
  refine xAll_cons (p := fun e : Nat × (Nat × Nat × FieldType × Nat) => xGf "CapKernel$Client" xT False e.1 e.2) ⟨"CapKernel$Client", TC2, 19, tC2, rfl, by decide, inC2, wd_212, okC2, rfl, nmC2, fun h => absurd h (by decide), fun _ => Or.inl rfl⟩ ?_
  refine xAll_cons (p := fun e : Nat × (Nat × Nat × FieldType × Nat) => xGf "CapKernel$Client" xT False e.1 e.2) ⟨"CapKernel$Client", TC2, 19, tC2, rfl, by decide, inC2, wd_214, okC2, rfl, nmC2, fun h => absurd h (by decide), fun _ => Or.inl rfl⟩ ?_
  refine xAll_cons (p := fun e : Nat × (Nat × Nat × FieldType × Nat) => xGf "CapKernel$Client" xT False e.1 e.2) ⟨"CapKernel$Client", TC2, 19, tC2, rfl, by decide, inC2, wd_225, okC2, rfl, nmC2, fun _ => rfl, fun h => absurd rfl h⟩ ?_
  refine xAll_cons (p := fun e : Nat × (Nat × Nat × FieldType × Nat) => xGf "CapKernel$Client" xT False e.1 e.2) ⟨"CapKernel$Client", TC2, 19, tC2, rfl, by decide, inC2, wd_228, okC2, rfl, nmC2, fun _ => rfl, fun h => absurd rfl h⟩ ?_
  refine xAll_cons (p := fun e : Nat × (Nat × Nat × FieldType × Nat) => xGf "CapKernel$Client" xT False e.1 e.2) ⟨"CapKernel$Client", TC2, 19, tC2, rfl, by decide, inC2, wd_231, okC2, rfl, nmC2, fun _ => rfl, fun h => absurd rfl h⟩ ?_
  refine xAll_cons (p := fun e : Nat × (Nat × Nat × FieldType × Nat) => xGf "CapKernel$Client" xT False e.1 e.2) ⟨"CapKernel$Client", TC2, 19, tC2, rfl, by decide, inC2, wd_233, okC2, rfl, nmC2, fun _ => rfl, fun h => absurd rfl h⟩ ?_
  refine xAll_cons (p := fun e : Nat × (Nat × Nat × FieldType × Nat) => xGf "CapKernel$Client" xT False e.1 e.2) ⟨"CapKernel$Client", TC2, 19, tC2, rfl, by decide, inC2, wd_235, okC2, rfl, nmC2, fun _ => rfl, fun h => absurd rfl h⟩ ?_
  refine xAll_cons (p := fun e : Nat × (Nat × Nat × FieldType × Nat) => xGf "CapKernel$Client" xT False e.1 e.2) ⟨"CapKernel$Client", TC2, 19, tC2, rfl, by decide, inC2, wd_217, okC2, rfl, nmC2, fun _ => rfl, fun h => absurd rfl h⟩ ?_
  refine xAll_cons (p := fun e : Nat × (Nat × Nat × FieldType × Nat) => xGf "CapKernel$Client" xT False e.1 e.2) ⟨"CapKernel$Client", TC2, 19, tC2, rfl, by decide, inC2, wd_219, okC2, rfl, nmC2, fun _ => rfl, fun h => absurd rfl h⟩ ?_
  refine xAll_cons (p := fun e : Nat × (Nat × Nat × FieldType × Nat) => xGf "CapKernel$Client" xT False e.1 e.2) ⟨"CapKernel$Client", TC2, 19, tC2, rfl, by decide, inC2, wd_221, okC2, rfl, nmC2, fun _ => rfl, fun h => absurd rfl h⟩ ?_
  refine xAll_cons (p := fun e : Nat × (Nat × Nat × FieldType × Nat) => xGf "CapKernel$Client" xT False e.1 e.2) ⟨"CapKernel$Client", TC2, 19, tC2, rfl, by decide, inC2, wd_223, okC2, rfl, nmC2, fun _ => rfl, fun h => absurd rfl h⟩ ?_
  exact xAll_nil
def fi_L : List (Nat × (Nat × Nat × FieldType × Nat)) := [(9, (2, 0, .int, 2)), (20, (2, 1, .object "CapKernel$Thing", 2)), (24, (2, 7, .int, 1)), (27, (2, 8, .int, 1)), (30, (2, 11, .int, 1)), (33, (2, 12, .int, 1)), (36, (2, 13, .object "CapKernel$Capability", 1)), (40, (2, 3, .int, 1)), (43, (2, 4, .int, 1)), (46, (2, 5, .int, 1)), (49, (2, 6, .int, 1))]
theorem gfi_L : ∀ e ∈ fi_L, xGf "CapKernel$Client" xT True e.1 e.2 := by
  unfold fi_L
  refine xAll_cons (p := fun e : Nat × (Nat × Nat × FieldType × Nat) => xGf "CapKernel$Client" xT True e.1 e.2) ⟨"CapKernel$Client", TC2, 19, tC2, rfl, by decide, inC2, wd_212, okC2, rfl, nmC2, fun h => absurd h (by decide), fun _ => Or.inr ⟨rfl, rfl, trivial⟩⟩ ?_
  refine xAll_cons (p := fun e : Nat × (Nat × Nat × FieldType × Nat) => xGf "CapKernel$Client" xT True e.1 e.2) ⟨"CapKernel$Client", TC2, 19, tC2, rfl, by decide, inC2, wd_214, okC2, rfl, nmC2, fun h => absurd h (by decide), fun _ => Or.inr ⟨rfl, rfl, trivial⟩⟩ ?_
  refine xAll_cons (p := fun e : Nat × (Nat × Nat × FieldType × Nat) => xGf "CapKernel$Client" xT True e.1 e.2) ⟨"CapKernel$Client", TC2, 19, tC2, rfl, by decide, inC2, wd_225, okC2, rfl, nmC2, fun _ => rfl, fun h => absurd rfl h⟩ ?_
  refine xAll_cons (p := fun e : Nat × (Nat × Nat × FieldType × Nat) => xGf "CapKernel$Client" xT True e.1 e.2) ⟨"CapKernel$Client", TC2, 19, tC2, rfl, by decide, inC2, wd_228, okC2, rfl, nmC2, fun _ => rfl, fun h => absurd rfl h⟩ ?_
  refine xAll_cons (p := fun e : Nat × (Nat × Nat × FieldType × Nat) => xGf "CapKernel$Client" xT True e.1 e.2) ⟨"CapKernel$Client", TC2, 19, tC2, rfl, by decide, inC2, wd_231, okC2, rfl, nmC2, fun _ => rfl, fun h => absurd rfl h⟩ ?_
  refine xAll_cons (p := fun e : Nat × (Nat × Nat × FieldType × Nat) => xGf "CapKernel$Client" xT True e.1 e.2) ⟨"CapKernel$Client", TC2, 19, tC2, rfl, by decide, inC2, wd_233, okC2, rfl, nmC2, fun _ => rfl, fun h => absurd rfl h⟩ ?_
  refine xAll_cons (p := fun e : Nat × (Nat × Nat × FieldType × Nat) => xGf "CapKernel$Client" xT True e.1 e.2) ⟨"CapKernel$Client", TC2, 19, tC2, rfl, by decide, inC2, wd_235, okC2, rfl, nmC2, fun _ => rfl, fun h => absurd rfl h⟩ ?_
  refine xAll_cons (p := fun e : Nat × (Nat × Nat × FieldType × Nat) => xGf "CapKernel$Client" xT True e.1 e.2) ⟨"CapKernel$Client", TC2, 19, tC2, rfl, by decide, inC2, wd_217, okC2, rfl, nmC2, fun _ => rfl, fun h => absurd rfl h⟩ ?_
  refine xAll_cons (p := fun e : Nat × (Nat × Nat × FieldType × Nat) => xGf "CapKernel$Client" xT True e.1 e.2) ⟨"CapKernel$Client", TC2, 19, tC2, rfl, by decide, inC2, wd_219, okC2, rfl, nmC2, fun _ => rfl, fun h => absurd rfl h⟩ ?_
  refine xAll_cons (p := fun e : Nat × (Nat × Nat × FieldType × Nat) => xGf "CapKernel$Client" xT True e.1 e.2) ⟨"CapKernel$Client", TC2, 19, tC2, rfl, by decide, inC2, wd_221, okC2, rfl, nmC2, fun _ => rfl, fun h => absurd rfl h⟩ ?_
  refine xAll_cons (p := fun e : Nat × (Nat × Nat × FieldType × Nat) => xGf "CapKernel$Client" xT True e.1 e.2) ⟨"CapKernel$Client", TC2, 19, tC2, rfl, by decide, inC2, wd_223, okC2, rfl, nmC2, fun _ => rfl, fun h => absurd rfl h⟩ ?_
  exact xAll_nil
def nw_L : List (Nat × (Nat × List Value)) := [(15, (5, [.int 0, .int 0, .int 0, .null, .int 0, .int 0, .int 0, .int 0, .int 0, .int 0, .null]))]
theorem gnw_L : ∀ e ∈ nw_L, xGn "CapKernel$Client" xT e.1 e.2 := by
  unfold nw_L
  refine xAll_cons (p := fun e : Nat × (Nat × List Value) => xGn "CapKernel$Client" xT e.1 e.2) ⟨"CapKernel$Thing", TC5, 11, tC5, rfl, inC5, okC5, wd_210, wd_115, wd_59, by decide +kernel, rfl⟩ ?_
  exact xAll_nil
def an_L : List (Nat × Nat) := []
theorem gan_L : ∀ e ∈ an_L, xGa "CapKernel$Client" xT e.1 e.2 := by
  unfold an_L
  exact xAll_nil
def cs_L : List (Nat × Nat) := []
theorem gcs_L : ∀ e ∈ cs_L, xGc "CapKernel$Client" xT e.1 e.2 := by
  unfold cs_L
  exact xAll_nil
def fl_D : List (Nat × (Nat × Nat × FieldType × Nat)) := [(9, (3, 0, .array .int, 0)), (23, (3, 1, .int, 1)), (27, (3, 2, .int, 1))]
theorem gfl_D : ∀ e ∈ fl_D, xGf "CapKernel$Driver" xT False e.1 e.2 := by
  unfold fl_D
  refine xAll_cons (p := fun e : Nat × (Nat × Nat × FieldType × Nat) => xGf "CapKernel$Driver" xT False e.1 e.2) ⟨"CapKernel$Driver", TC3, 3, tC3, rfl, by decide, inC3, wd_174, okC3, rfl, nmC3, fun h => absurd h (by decide), fun _ => Or.inl rfl⟩ ?_
  refine xAll_cons (p := fun e : Nat × (Nat × Nat × FieldType × Nat) => xGf "CapKernel$Driver" xT False e.1 e.2) ⟨"CapKernel$Driver", TC3, 3, tC3, rfl, by decide, inC3, wd_175, okC3, rfl, nmC3, fun _ => rfl, fun h => absurd rfl h⟩ ?_
  refine xAll_cons (p := fun e : Nat × (Nat × Nat × FieldType × Nat) => xGf "CapKernel$Driver" xT False e.1 e.2) ⟨"CapKernel$Driver", TC3, 3, tC3, rfl, by decide, inC3, wd_177, okC3, rfl, nmC3, fun _ => rfl, fun h => absurd rfl h⟩ ?_
  exact xAll_nil
def fi_D : List (Nat × (Nat × Nat × FieldType × Nat)) := [(9, (3, 0, .array .int, 2)), (23, (3, 1, .int, 1)), (27, (3, 2, .int, 1))]
theorem gfi_D : ∀ e ∈ fi_D, xGf "CapKernel$Driver" xT True e.1 e.2 := by
  unfold fi_D
  refine xAll_cons (p := fun e : Nat × (Nat × Nat × FieldType × Nat) => xGf "CapKernel$Driver" xT True e.1 e.2) ⟨"CapKernel$Driver", TC3, 3, tC3, rfl, by decide, inC3, wd_174, okC3, rfl, nmC3, fun h => absurd h (by decide), fun _ => Or.inr ⟨rfl, rfl, trivial⟩⟩ ?_
  refine xAll_cons (p := fun e : Nat × (Nat × Nat × FieldType × Nat) => xGf "CapKernel$Driver" xT True e.1 e.2) ⟨"CapKernel$Driver", TC3, 3, tC3, rfl, by decide, inC3, wd_175, okC3, rfl, nmC3, fun _ => rfl, fun h => absurd rfl h⟩ ?_
  refine xAll_cons (p := fun e : Nat × (Nat × Nat × FieldType × Nat) => xGf "CapKernel$Driver" xT True e.1 e.2) ⟨"CapKernel$Driver", TC3, 3, tC3, rfl, by decide, inC3, wd_177, okC3, rfl, nmC3, fun _ => rfl, fun h => absurd rfl h⟩ ?_
  exact xAll_nil
def nw_D : List (Nat × (Nat × List Value)) := []
theorem gnw_D : ∀ e ∈ nw_D, xGn "CapKernel$Driver" xT e.1 e.2 := by
  unfold nw_D
  exact xAll_nil
def an_D : List (Nat × Nat) := []
theorem gan_D : ∀ e ∈ an_D, xGa "CapKernel$Driver" xT e.1 e.2 := by
  unfold an_D
  exact xAll_nil
def cs_D : List (Nat × Nat) := []
theorem gcs_D : ∀ e ∈ cs_D, xGc "CapKernel$Driver" xT e.1 e.2 := by
  unfold cs_D
  exact xAll_nil
def fl_F : List (Nat × (Nat × Nat × FieldType × Nat)) := [(10, (4, 0, .object "CapKernel$Driver", 0)), (16, (4, 1, .array .boolean, 0)), (20, (4, 2, .array .int, 0)), (24, (4, 3, .array .int, 0)), (27, (4, 4, .array .int, 0))]
theorem gfl_F : ∀ e ∈ fl_F, xGf "CapKernel$FileServer" xT False e.1 e.2 := by
  unfold fl_F
  refine xAll_cons (p := fun e : Nat × (Nat × Nat × FieldType × Nat) => xGf "CapKernel$FileServer" xT False e.1 e.2) ⟨"CapKernel$FileServer", TC4, 5, tC4, rfl, by decide, inC4, wd_187, okC4, rfl, nmC4, fun h => absurd h (by decide), fun _ => Or.inl rfl⟩ ?_
  refine xAll_cons (p := fun e : Nat × (Nat × Nat × FieldType × Nat) => xGf "CapKernel$FileServer" xT False e.1 e.2) ⟨"CapKernel$FileServer", TC4, 5, tC4, rfl, by decide, inC4, wd_189, okC4, rfl, nmC4, fun h => absurd h (by decide), fun _ => Or.inl rfl⟩ ?_
  refine xAll_cons (p := fun e : Nat × (Nat × Nat × FieldType × Nat) => xGf "CapKernel$FileServer" xT False e.1 e.2) ⟨"CapKernel$FileServer", TC4, 5, tC4, rfl, by decide, inC4, wd_190, okC4, rfl, nmC4, fun h => absurd h (by decide), fun _ => Or.inl rfl⟩ ?_
  refine xAll_cons (p := fun e : Nat × (Nat × Nat × FieldType × Nat) => xGf "CapKernel$FileServer" xT False e.1 e.2) ⟨"CapKernel$FileServer", TC4, 5, tC4, rfl, by decide, inC4, wd_191, okC4, rfl, nmC4, fun h => absurd h (by decide), fun _ => Or.inl rfl⟩ ?_
  refine xAll_cons (p := fun e : Nat × (Nat × Nat × FieldType × Nat) => xGf "CapKernel$FileServer" xT False e.1 e.2) ⟨"CapKernel$FileServer", TC4, 5, tC4, rfl, by decide, inC4, wd_192, okC4, rfl, nmC4, fun h => absurd h (by decide), fun _ => Or.inl rfl⟩ ?_
  exact xAll_nil
def fi_F : List (Nat × (Nat × Nat × FieldType × Nat)) := [(10, (4, 0, .object "CapKernel$Driver", 2)), (16, (4, 1, .array .boolean, 2)), (20, (4, 2, .array .int, 2)), (24, (4, 3, .array .int, 2)), (27, (4, 4, .array .int, 2))]
theorem gfi_F : ∀ e ∈ fi_F, xGf "CapKernel$FileServer" xT True e.1 e.2 := by
  unfold fi_F
  refine xAll_cons (p := fun e : Nat × (Nat × Nat × FieldType × Nat) => xGf "CapKernel$FileServer" xT True e.1 e.2) ⟨"CapKernel$FileServer", TC4, 5, tC4, rfl, by decide, inC4, wd_187, okC4, rfl, nmC4, fun h => absurd h (by decide), fun _ => Or.inr ⟨rfl, rfl, trivial⟩⟩ ?_
  refine xAll_cons (p := fun e : Nat × (Nat × Nat × FieldType × Nat) => xGf "CapKernel$FileServer" xT True e.1 e.2) ⟨"CapKernel$FileServer", TC4, 5, tC4, rfl, by decide, inC4, wd_189, okC4, rfl, nmC4, fun h => absurd h (by decide), fun _ => Or.inr ⟨rfl, rfl, trivial⟩⟩ ?_
  refine xAll_cons (p := fun e : Nat × (Nat × Nat × FieldType × Nat) => xGf "CapKernel$FileServer" xT True e.1 e.2) ⟨"CapKernel$FileServer", TC4, 5, tC4, rfl, by decide, inC4, wd_190, okC4, rfl, nmC4, fun h => absurd h (by decide), fun _ => Or.inr ⟨rfl, rfl, trivial⟩⟩ ?_
  refine xAll_cons (p := fun e : Nat × (Nat × Nat × FieldType × Nat) => xGf "CapKernel$FileServer" xT True e.1 e.2) ⟨"CapKernel$FileServer", TC4, 5, tC4, rfl, by decide, inC4, wd_191, okC4, rfl, nmC4, fun h => absurd h (by decide), fun _ => Or.inr ⟨rfl, rfl, trivial⟩⟩ ?_
  refine xAll_cons (p := fun e : Nat × (Nat × Nat × FieldType × Nat) => xGf "CapKernel$FileServer" xT True e.1 e.2) ⟨"CapKernel$FileServer", TC4, 5, tC4, rfl, by decide, inC4, wd_192, okC4, rfl, nmC4, fun h => absurd h (by decide), fun _ => Or.inr ⟨rfl, rfl, trivial⟩⟩ ?_
  exact xAll_nil
def nw_F : List (Nat × (Nat × List Value)) := [(7, (3, [.null, .int 0, .int 0]))]
theorem gnw_F : ∀ e ∈ nw_F, xGn "CapKernel$FileServer" xT e.1 e.2 := by
  unfold nw_F
  refine xAll_cons (p := fun e : Nat × (Nat × List Value) => xGn "CapKernel$FileServer" xT e.1 e.2) ⟨"CapKernel$Driver", TC3, 3, tC3, rfl, inC3, okC3, wd_168, wd_169, wd_61, by decide +kernel, rfl⟩ ?_
  exact xAll_nil
def an_F : List (Nat × Nat) := []
theorem gan_F : ∀ e ∈ an_F, xGa "CapKernel$FileServer" xT e.1 e.2 := by
  unfold an_F
  exact xAll_nil
def cs_F : List (Nat × Nat) := []
theorem gcs_F : ∀ e ∈ cs_F, xGc "CapKernel$FileServer" xT e.1 e.2 := by
  unfold cs_F
  exact xAll_nil
def fl_T : List (Nat × (Nat × Nat × FieldType × Nat)) := [(9, (5, 0, .int, 0)), (15, (5, 1, .int, 0)), (18, (5, 2, .int, 0)), (23, (5, 3, .array (.object "CapKernel$Capability"), 0)), (31, (5, 5, .int, 1)), (34, (5, 6, .int, 1))]
theorem gfl_T : ∀ e ∈ fl_T, xGf "CapKernel$Thing" xT False e.1 e.2 := by
  unfold fl_T
  refine xAll_cons (p := fun e : Nat × (Nat × Nat × FieldType × Nat) => xGf "CapKernel$Thing" xT False e.1 e.2) ⟨"CapKernel$Thing", TC5, 11, tC5, rfl, by decide, inC5, wd_122, okC5, rfl, nmC5, fun h => absurd h (by decide), fun _ => Or.inl rfl⟩ ?_
  refine xAll_cons (p := fun e : Nat × (Nat × Nat × FieldType × Nat) => xGf "CapKernel$Thing" xT False e.1 e.2) ⟨"CapKernel$Thing", TC5, 11, tC5, rfl, by decide, inC5, wd_124, okC5, rfl, nmC5, fun h => absurd h (by decide), fun _ => Or.inl rfl⟩ ?_
  refine xAll_cons (p := fun e : Nat × (Nat × Nat × FieldType × Nat) => xGf "CapKernel$Thing" xT False e.1 e.2) ⟨"CapKernel$Thing", TC5, 11, tC5, rfl, by decide, inC5, wd_126, okC5, rfl, nmC5, fun h => absurd h (by decide), fun _ => Or.inl rfl⟩ ?_
  refine xAll_cons (p := fun e : Nat × (Nat × Nat × FieldType × Nat) => xGf "CapKernel$Thing" xT False e.1 e.2) ⟨"CapKernel$Thing", TC5, 11, tC5, rfl, by decide, inC5, wd_128, okC5, rfl, nmC5, fun h => absurd h (by decide), fun _ => Or.inl rfl⟩ ?_
  refine xAll_cons (p := fun e : Nat × (Nat × Nat × FieldType × Nat) => xGf "CapKernel$Thing" xT False e.1 e.2) ⟨"CapKernel$Thing", TC5, 11, tC5, rfl, by decide, inC5, wd_131, okC5, rfl, nmC5, fun _ => rfl, fun h => absurd rfl h⟩ ?_
  refine xAll_cons (p := fun e : Nat × (Nat × Nat × FieldType × Nat) => xGf "CapKernel$Thing" xT False e.1 e.2) ⟨"CapKernel$Thing", TC5, 11, tC5, rfl, by decide, inC5, wd_133, okC5, rfl, nmC5, fun _ => rfl, fun h => absurd rfl h⟩ ?_
  exact xAll_nil
def fi_T : List (Nat × (Nat × Nat × FieldType × Nat)) := [(9, (5, 0, .int, 2)), (15, (5, 1, .int, 2)), (18, (5, 2, .int, 2)), (23, (5, 3, .array (.object "CapKernel$Capability"), 2)), (31, (5, 5, .int, 1)), (34, (5, 6, .int, 1))]
theorem gfi_T : ∀ e ∈ fi_T, xGf "CapKernel$Thing" xT True e.1 e.2 := by
  unfold fi_T
  refine xAll_cons (p := fun e : Nat × (Nat × Nat × FieldType × Nat) => xGf "CapKernel$Thing" xT True e.1 e.2) ⟨"CapKernel$Thing", TC5, 11, tC5, rfl, by decide, inC5, wd_122, okC5, rfl, nmC5, fun h => absurd h (by decide), fun _ => Or.inr ⟨rfl, rfl, trivial⟩⟩ ?_
  refine xAll_cons (p := fun e : Nat × (Nat × Nat × FieldType × Nat) => xGf "CapKernel$Thing" xT True e.1 e.2) ⟨"CapKernel$Thing", TC5, 11, tC5, rfl, by decide, inC5, wd_124, okC5, rfl, nmC5, fun h => absurd h (by decide), fun _ => Or.inr ⟨rfl, rfl, trivial⟩⟩ ?_
  refine xAll_cons (p := fun e : Nat × (Nat × Nat × FieldType × Nat) => xGf "CapKernel$Thing" xT True e.1 e.2) ⟨"CapKernel$Thing", TC5, 11, tC5, rfl, by decide, inC5, wd_126, okC5, rfl, nmC5, fun h => absurd h (by decide), fun _ => Or.inr ⟨rfl, rfl, trivial⟩⟩ ?_
  refine xAll_cons (p := fun e : Nat × (Nat × Nat × FieldType × Nat) => xGf "CapKernel$Thing" xT True e.1 e.2) ⟨"CapKernel$Thing", TC5, 11, tC5, rfl, by decide, inC5, wd_128, okC5, rfl, nmC5, fun h => absurd h (by decide), fun _ => Or.inr ⟨rfl, rfl, trivial⟩⟩ ?_
  refine xAll_cons (p := fun e : Nat × (Nat × Nat × FieldType × Nat) => xGf "CapKernel$Thing" xT True e.1 e.2) ⟨"CapKernel$Thing", TC5, 11, tC5, rfl, by decide, inC5, wd_131, okC5, rfl, nmC5, fun _ => rfl, fun h => absurd rfl h⟩ ?_
  refine xAll_cons (p := fun e : Nat × (Nat × Nat × FieldType × Nat) => xGf "CapKernel$Thing" xT True e.1 e.2) ⟨"CapKernel$Thing", TC5, 11, tC5, rfl, by decide, inC5, wd_133, okC5, rfl, nmC5, fun _ => rfl, fun h => absurd rfl h⟩ ?_
  exact xAll_nil
def nw_T : List (Nat × (Nat × List Value)) := []
theorem gnw_T : ∀ e ∈ nw_T, xGn "CapKernel$Thing" xT e.1 e.2 := by
  unfold nw_T
  exact xAll_nil
def an_T : List (Nat × Nat) := [(21, 2)]
theorem gan_T : ∀ e ∈ an_T, xGa "CapKernel$Thing" xT e.1 e.2 := by
  unfold an_T
  refine xAll_cons (p := fun e : Nat × Nat => xGa "CapKernel$Thing" xT e.1 e.2) ⟨"CapKernel$Capability", rfl, wd_120⟩ ?_
  exact xAll_nil
def cs_T : List (Nat × Nat) := []
theorem gcs_T : ∀ e ∈ cs_T, xGc "CapKernel$Thing" xT e.1 e.2 := by
  unfold cs_T
  exact xAll_nil
def fl_M : List (Nat × (Nat × Nat × FieldType × Nat)) := [(7, (6, 1, .array .int, 0)), (13, (6, 2, .array .int, 0)), (16, (6, 3, .array .int, 0)), (19, (6, 4, .array .int, 0)), (22, (6, 5, .array .int, 0)), (25, (6, 6, .array .boolean, 0)), (29, (6, 7, .int, 1)), (33, (6, 8, .array .int, 0)), (36, (6, 9, .array .int, 0)), (39, (6, 10, .array .int, 0)), (42, (6, 11, .array .int, 0)), (45, (6, 12, .array .boolean, 0)), (48, (6, 14, .array .int, 0)), (51, (6, 15, .array .int, 0)), (54, (6, 16, .array .int, 0)), (57, (6, 17, .array .int, 0)), (60, (6, 18, .array .int, 0)), (63, (6, 19, .array .int, 0)), (66, (6, 20, .array .int, 0)), (69, (6, 21, .array .int, 0)), (72, (6, 22, .array .int, 0)), (75, (6, 23, .array .int, 0)), (78, (6, 24, .array .int, 0)), (81, (6, 25, .array .int, 0)), (84, (6, 26, .array .int, 0)), (87, (6, 27, .array .int, 0)), (90, (6, 28, .array .int, 0)), (93, (6, 29, .array .int, 0)), (96, (6, 30, .array .int, 0)), (99, (6, 31, .int, 1)), (102, (6, 32, .array .int, 0)), (105, (6, 34, .array .int, 0)), (108, (6, 35, .array .int, 0)), (111, (6, 41, .array .int, 0)), (118, (6, 0, .int, 1)), (121, (6, 13, .int, 1)), (136, (6, 33, .int, 1)), (157, (6, 38, .int, 1)), (163, (6, 39, .int, 1)), (166, (6, 40, .int, 1)), (226, (6, 36, .int, 1)), (232, (6, 37, .int, 1))]
theorem gfl_M : ∀ e ∈ fl_M, xGf "CapKernelModel" xT False e.1 e.2 := by
  unfold fl_M
  refine xAll_cons (p := fun e : Nat × (Nat × Nat × FieldType × Nat) => xGf "CapKernelModel" xT False e.1 e.2) ⟨"CapKernelModel", TC6, 42, tC6, rfl, by decide, inC6, wd_886, okC6, rfl, nmC6, fun h => absurd h (by decide), fun _ => Or.inl rfl⟩ ?_
  refine xAll_cons (p := fun e : Nat × (Nat × Nat × FieldType × Nat) => xGf "CapKernelModel" xT False e.1 e.2) ⟨"CapKernelModel", TC6, 42, tC6, rfl, by decide, inC6, wd_887, okC6, rfl, nmC6, fun h => absurd h (by decide), fun _ => Or.inl rfl⟩ ?_
  refine xAll_cons (p := fun e : Nat × (Nat × Nat × FieldType × Nat) => xGf "CapKernelModel" xT False e.1 e.2) ⟨"CapKernelModel", TC6, 42, tC6, rfl, by decide, inC6, wd_888, okC6, rfl, nmC6, fun h => absurd h (by decide), fun _ => Or.inl rfl⟩ ?_
  refine xAll_cons (p := fun e : Nat × (Nat × Nat × FieldType × Nat) => xGf "CapKernelModel" xT False e.1 e.2) ⟨"CapKernelModel", TC6, 42, tC6, rfl, by decide, inC6, wd_889, okC6, rfl, nmC6, fun h => absurd h (by decide), fun _ => Or.inl rfl⟩ ?_
  refine xAll_cons (p := fun e : Nat × (Nat × Nat × FieldType × Nat) => xGf "CapKernelModel" xT False e.1 e.2) ⟨"CapKernelModel", TC6, 42, tC6, rfl, by decide, inC6, wd_890, okC6, rfl, nmC6, fun h => absurd h (by decide), fun _ => Or.inl rfl⟩ ?_
  refine xAll_cons (p := fun e : Nat × (Nat × Nat × FieldType × Nat) => xGf "CapKernelModel" xT False e.1 e.2) ⟨"CapKernelModel", TC6, 42, tC6, rfl, by decide, inC6, wd_891, okC6, rfl, nmC6, fun h => absurd h (by decide), fun _ => Or.inl rfl⟩ ?_
  refine xAll_cons (p := fun e : Nat × (Nat × Nat × FieldType × Nat) => xGf "CapKernelModel" xT False e.1 e.2) ⟨"CapKernelModel", TC6, 42, tC6, rfl, by decide, inC6, wd_892, okC6, rfl, nmC6, fun _ => rfl, fun h => absurd rfl h⟩ ?_
  refine xAll_cons (p := fun e : Nat × (Nat × Nat × FieldType × Nat) => xGf "CapKernelModel" xT False e.1 e.2) ⟨"CapKernelModel", TC6, 42, tC6, rfl, by decide, inC6, wd_893, okC6, rfl, nmC6, fun h => absurd h (by decide), fun _ => Or.inl rfl⟩ ?_
  refine xAll_cons (p := fun e : Nat × (Nat × Nat × FieldType × Nat) => xGf "CapKernelModel" xT False e.1 e.2) ⟨"CapKernelModel", TC6, 42, tC6, rfl, by decide, inC6, wd_894, okC6, rfl, nmC6, fun h => absurd h (by decide), fun _ => Or.inl rfl⟩ ?_
  refine xAll_cons (p := fun e : Nat × (Nat × Nat × FieldType × Nat) => xGf "CapKernelModel" xT False e.1 e.2) ⟨"CapKernelModel", TC6, 42, tC6, rfl, by decide, inC6, wd_895, okC6, rfl, nmC6, fun h => absurd h (by decide), fun _ => Or.inl rfl⟩ ?_
  refine xAll_cons (p := fun e : Nat × (Nat × Nat × FieldType × Nat) => xGf "CapKernelModel" xT False e.1 e.2) ⟨"CapKernelModel", TC6, 42, tC6, rfl, by decide, inC6, wd_896, okC6, rfl, nmC6, fun h => absurd h (by decide), fun _ => Or.inl rfl⟩ ?_
  refine xAll_cons (p := fun e : Nat × (Nat × Nat × FieldType × Nat) => xGf "CapKernelModel" xT False e.1 e.2) ⟨"CapKernelModel", TC6, 42, tC6, rfl, by decide, inC6, wd_897, okC6, rfl, nmC6, fun h => absurd h (by decide), fun _ => Or.inl rfl⟩ ?_
  refine xAll_cons (p := fun e : Nat × (Nat × Nat × FieldType × Nat) => xGf "CapKernelModel" xT False e.1 e.2) ⟨"CapKernelModel", TC6, 42, tC6, rfl, by decide, inC6, wd_899, okC6, rfl, nmC6, fun h => absurd h (by decide), fun _ => Or.inl rfl⟩ ?_
  refine xAll_cons (p := fun e : Nat × (Nat × Nat × FieldType × Nat) => xGf "CapKernelModel" xT False e.1 e.2) ⟨"CapKernelModel", TC6, 42, tC6, rfl, by decide, inC6, wd_900, okC6, rfl, nmC6, fun h => absurd h (by decide), fun _ => Or.inl rfl⟩ ?_
  refine xAll_cons (p := fun e : Nat × (Nat × Nat × FieldType × Nat) => xGf "CapKernelModel" xT False e.1 e.2) ⟨"CapKernelModel", TC6, 42, tC6, rfl, by decide, inC6, wd_901, okC6, rfl, nmC6, fun h => absurd h (by decide), fun _ => Or.inl rfl⟩ ?_
  refine xAll_cons (p := fun e : Nat × (Nat × Nat × FieldType × Nat) => xGf "CapKernelModel" xT False e.1 e.2) ⟨"CapKernelModel", TC6, 42, tC6, rfl, by decide, inC6, wd_902, okC6, rfl, nmC6, fun h => absurd h (by decide), fun _ => Or.inl rfl⟩ ?_
  refine xAll_cons (p := fun e : Nat × (Nat × Nat × FieldType × Nat) => xGf "CapKernelModel" xT False e.1 e.2) ⟨"CapKernelModel", TC6, 42, tC6, rfl, by decide, inC6, wd_903, okC6, rfl, nmC6, fun h => absurd h (by decide), fun _ => Or.inl rfl⟩ ?_
  refine xAll_cons (p := fun e : Nat × (Nat × Nat × FieldType × Nat) => xGf "CapKernelModel" xT False e.1 e.2) ⟨"CapKernelModel", TC6, 42, tC6, rfl, by decide, inC6, wd_904, okC6, rfl, nmC6, fun h => absurd h (by decide), fun _ => Or.inl rfl⟩ ?_
  refine xAll_cons (p := fun e : Nat × (Nat × Nat × FieldType × Nat) => xGf "CapKernelModel" xT False e.1 e.2) ⟨"CapKernelModel", TC6, 42, tC6, rfl, by decide, inC6, wd_905, okC6, rfl, nmC6, fun h => absurd h (by decide), fun _ => Or.inl rfl⟩ ?_
  refine xAll_cons (p := fun e : Nat × (Nat × Nat × FieldType × Nat) => xGf "CapKernelModel" xT False e.1 e.2) ⟨"CapKernelModel", TC6, 42, tC6, rfl, by decide, inC6, wd_906, okC6, rfl, nmC6, fun h => absurd h (by decide), fun _ => Or.inl rfl⟩ ?_
  refine xAll_cons (p := fun e : Nat × (Nat × Nat × FieldType × Nat) => xGf "CapKernelModel" xT False e.1 e.2) ⟨"CapKernelModel", TC6, 42, tC6, rfl, by decide, inC6, wd_907, okC6, rfl, nmC6, fun h => absurd h (by decide), fun _ => Or.inl rfl⟩ ?_
  refine xAll_cons (p := fun e : Nat × (Nat × Nat × FieldType × Nat) => xGf "CapKernelModel" xT False e.1 e.2) ⟨"CapKernelModel", TC6, 42, tC6, rfl, by decide, inC6, wd_908, okC6, rfl, nmC6, fun h => absurd h (by decide), fun _ => Or.inl rfl⟩ ?_
  refine xAll_cons (p := fun e : Nat × (Nat × Nat × FieldType × Nat) => xGf "CapKernelModel" xT False e.1 e.2) ⟨"CapKernelModel", TC6, 42, tC6, rfl, by decide, inC6, wd_909, okC6, rfl, nmC6, fun h => absurd h (by decide), fun _ => Or.inl rfl⟩ ?_
  refine xAll_cons (p := fun e : Nat × (Nat × Nat × FieldType × Nat) => xGf "CapKernelModel" xT False e.1 e.2) ⟨"CapKernelModel", TC6, 42, tC6, rfl, by decide, inC6, wd_910, okC6, rfl, nmC6, fun h => absurd h (by decide), fun _ => Or.inl rfl⟩ ?_
  refine xAll_cons (p := fun e : Nat × (Nat × Nat × FieldType × Nat) => xGf "CapKernelModel" xT False e.1 e.2) ⟨"CapKernelModel", TC6, 42, tC6, rfl, by decide, inC6, wd_911, okC6, rfl, nmC6, fun h => absurd h (by decide), fun _ => Or.inl rfl⟩ ?_
  refine xAll_cons (p := fun e : Nat × (Nat × Nat × FieldType × Nat) => xGf "CapKernelModel" xT False e.1 e.2) ⟨"CapKernelModel", TC6, 42, tC6, rfl, by decide, inC6, wd_912, okC6, rfl, nmC6, fun h => absurd h (by decide), fun _ => Or.inl rfl⟩ ?_
  refine xAll_cons (p := fun e : Nat × (Nat × Nat × FieldType × Nat) => xGf "CapKernelModel" xT False e.1 e.2) ⟨"CapKernelModel", TC6, 42, tC6, rfl, by decide, inC6, wd_913, okC6, rfl, nmC6, fun h => absurd h (by decide), fun _ => Or.inl rfl⟩ ?_
  refine xAll_cons (p := fun e : Nat × (Nat × Nat × FieldType × Nat) => xGf "CapKernelModel" xT False e.1 e.2) ⟨"CapKernelModel", TC6, 42, tC6, rfl, by decide, inC6, wd_914, okC6, rfl, nmC6, fun h => absurd h (by decide), fun _ => Or.inl rfl⟩ ?_
  refine xAll_cons (p := fun e : Nat × (Nat × Nat × FieldType × Nat) => xGf "CapKernelModel" xT False e.1 e.2) ⟨"CapKernelModel", TC6, 42, tC6, rfl, by decide, inC6, wd_915, okC6, rfl, nmC6, fun h => absurd h (by decide), fun _ => Or.inl rfl⟩ ?_
  refine xAll_cons (p := fun e : Nat × (Nat × Nat × FieldType × Nat) => xGf "CapKernelModel" xT False e.1 e.2) ⟨"CapKernelModel", TC6, 42, tC6, rfl, by decide, inC6, wd_916, okC6, rfl, nmC6, fun _ => rfl, fun h => absurd rfl h⟩ ?_
  refine xAll_cons (p := fun e : Nat × (Nat × Nat × FieldType × Nat) => xGf "CapKernelModel" xT False e.1 e.2) ⟨"CapKernelModel", TC6, 42, tC6, rfl, by decide, inC6, wd_917, okC6, rfl, nmC6, fun h => absurd h (by decide), fun _ => Or.inl rfl⟩ ?_
  refine xAll_cons (p := fun e : Nat × (Nat × Nat × FieldType × Nat) => xGf "CapKernelModel" xT False e.1 e.2) ⟨"CapKernelModel", TC6, 42, tC6, rfl, by decide, inC6, wd_919, okC6, rfl, nmC6, fun h => absurd h (by decide), fun _ => Or.inl rfl⟩ ?_
  refine xAll_cons (p := fun e : Nat × (Nat × Nat × FieldType × Nat) => xGf "CapKernelModel" xT False e.1 e.2) ⟨"CapKernelModel", TC6, 42, tC6, rfl, by decide, inC6, wd_920, okC6, rfl, nmC6, fun h => absurd h (by decide), fun _ => Or.inl rfl⟩ ?_
  refine xAll_cons (p := fun e : Nat × (Nat × Nat × FieldType × Nat) => xGf "CapKernelModel" xT False e.1 e.2) ⟨"CapKernelModel", TC6, 42, tC6, rfl, by decide, inC6, wd_926, okC6, rfl, nmC6, fun h => absurd h (by decide), fun _ => Or.inl rfl⟩ ?_
  refine xAll_cons (p := fun e : Nat × (Nat × Nat × FieldType × Nat) => xGf "CapKernelModel" xT False e.1 e.2) ⟨"CapKernelModel", TC6, 42, tC6, rfl, by decide, inC6, wd_885, okC6, rfl, nmC6, fun _ => rfl, fun h => absurd rfl h⟩ ?_
  refine xAll_cons (p := fun e : Nat × (Nat × Nat × FieldType × Nat) => xGf "CapKernelModel" xT False e.1 e.2) ⟨"CapKernelModel", TC6, 42, tC6, rfl, by decide, inC6, wd_898, okC6, rfl, nmC6, fun _ => rfl, fun h => absurd rfl h⟩ ?_
  refine xAll_cons (p := fun e : Nat × (Nat × Nat × FieldType × Nat) => xGf "CapKernelModel" xT False e.1 e.2) ⟨"CapKernelModel", TC6, 42, tC6, rfl, by decide, inC6, wd_918, okC6, rfl, nmC6, fun _ => rfl, fun h => absurd rfl h⟩ ?_
  refine xAll_cons (p := fun e : Nat × (Nat × Nat × FieldType × Nat) => xGf "CapKernelModel" xT False e.1 e.2) ⟨"CapKernelModel", TC6, 42, tC6, rfl, by decide, inC6, wd_923, okC6, rfl, nmC6, fun _ => rfl, fun h => absurd rfl h⟩ ?_
  refine xAll_cons (p := fun e : Nat × (Nat × Nat × FieldType × Nat) => xGf "CapKernelModel" xT False e.1 e.2) ⟨"CapKernelModel", TC6, 42, tC6, rfl, by decide, inC6, wd_924, okC6, rfl, nmC6, fun _ => rfl, fun h => absurd rfl h⟩ ?_
  refine xAll_cons (p := fun e : Nat × (Nat × Nat × FieldType × Nat) => xGf "CapKernelModel" xT False e.1 e.2) ⟨"CapKernelModel", TC6, 42, tC6, rfl, by decide, inC6, wd_925, okC6, rfl, nmC6, fun _ => rfl, fun h => absurd rfl h⟩ ?_
  refine xAll_cons (p := fun e : Nat × (Nat × Nat × FieldType × Nat) => xGf "CapKernelModel" xT False e.1 e.2) ⟨"CapKernelModel", TC6, 42, tC6, rfl, by decide, inC6, wd_921, okC6, rfl, nmC6, fun _ => rfl, fun h => absurd rfl h⟩ ?_
  refine xAll_cons (p := fun e : Nat × (Nat × Nat × FieldType × Nat) => xGf "CapKernelModel" xT False e.1 e.2) ⟨"CapKernelModel", TC6, 42, tC6, rfl, by decide, inC6, wd_922, okC6, rfl, nmC6, fun _ => rfl, fun h => absurd rfl h⟩ ?_
  exact xAll_nil
def fi_M : List (Nat × (Nat × Nat × FieldType × Nat)) := [(7, (6, 1, .array .int, 2)), (13, (6, 2, .array .int, 2)), (16, (6, 3, .array .int, 2)), (19, (6, 4, .array .int, 2)), (22, (6, 5, .array .int, 2)), (25, (6, 6, .array .boolean, 2)), (29, (6, 7, .int, 1)), (33, (6, 8, .array .int, 2)), (36, (6, 9, .array .int, 2)), (39, (6, 10, .array .int, 2)), (42, (6, 11, .array .int, 2)), (45, (6, 12, .array .boolean, 2)), (48, (6, 14, .array .int, 2)), (51, (6, 15, .array .int, 2)), (54, (6, 16, .array .int, 2)), (57, (6, 17, .array .int, 2)), (60, (6, 18, .array .int, 2)), (63, (6, 19, .array .int, 2)), (66, (6, 20, .array .int, 2)), (69, (6, 21, .array .int, 2)), (72, (6, 22, .array .int, 2)), (75, (6, 23, .array .int, 2)), (78, (6, 24, .array .int, 2)), (81, (6, 25, .array .int, 2)), (84, (6, 26, .array .int, 2)), (87, (6, 27, .array .int, 2)), (90, (6, 28, .array .int, 2)), (93, (6, 29, .array .int, 2)), (96, (6, 30, .array .int, 2)), (99, (6, 31, .int, 1)), (102, (6, 32, .array .int, 2)), (105, (6, 34, .array .int, 2)), (108, (6, 35, .array .int, 2)), (111, (6, 41, .array .int, 2)), (118, (6, 0, .int, 1)), (121, (6, 13, .int, 1)), (136, (6, 33, .int, 1)), (157, (6, 38, .int, 1)), (163, (6, 39, .int, 1)), (166, (6, 40, .int, 1)), (226, (6, 36, .int, 1)), (232, (6, 37, .int, 1))]
theorem gfi_M : ∀ e ∈ fi_M, xGf "CapKernelModel" xT True e.1 e.2 := by
  unfold fi_M
  refine xAll_cons (p := fun e : Nat × (Nat × Nat × FieldType × Nat) => xGf "CapKernelModel" xT True e.1 e.2) ⟨"CapKernelModel", TC6, 42, tC6, rfl, by decide, inC6, wd_886, okC6, rfl, nmC6, fun h => absurd h (by decide), fun _ => Or.inr ⟨rfl, rfl, trivial⟩⟩ ?_
  refine xAll_cons (p := fun e : Nat × (Nat × Nat × FieldType × Nat) => xGf "CapKernelModel" xT True e.1 e.2) ⟨"CapKernelModel", TC6, 42, tC6, rfl, by decide, inC6, wd_887, okC6, rfl, nmC6, fun h => absurd h (by decide), fun _ => Or.inr ⟨rfl, rfl, trivial⟩⟩ ?_
  refine xAll_cons (p := fun e : Nat × (Nat × Nat × FieldType × Nat) => xGf "CapKernelModel" xT True e.1 e.2) ⟨"CapKernelModel", TC6, 42, tC6, rfl, by decide, inC6, wd_888, okC6, rfl, nmC6, fun h => absurd h (by decide), fun _ => Or.inr ⟨rfl, rfl, trivial⟩⟩ ?_
  refine xAll_cons (p := fun e : Nat × (Nat × Nat × FieldType × Nat) => xGf "CapKernelModel" xT True e.1 e.2) ⟨"CapKernelModel", TC6, 42, tC6, rfl, by decide, inC6, wd_889, okC6, rfl, nmC6, fun h => absurd h (by decide), fun _ => Or.inr ⟨rfl, rfl, trivial⟩⟩ ?_
  refine xAll_cons (p := fun e : Nat × (Nat × Nat × FieldType × Nat) => xGf "CapKernelModel" xT True e.1 e.2) ⟨"CapKernelModel", TC6, 42, tC6, rfl, by decide, inC6, wd_890, okC6, rfl, nmC6, fun h => absurd h (by decide), fun _ => Or.inr ⟨rfl, rfl, trivial⟩⟩ ?_
  refine xAll_cons (p := fun e : Nat × (Nat × Nat × FieldType × Nat) => xGf "CapKernelModel" xT True e.1 e.2) ⟨"CapKernelModel", TC6, 42, tC6, rfl, by decide, inC6, wd_891, okC6, rfl, nmC6, fun h => absurd h (by decide), fun _ => Or.inr ⟨rfl, rfl, trivial⟩⟩ ?_
  refine xAll_cons (p := fun e : Nat × (Nat × Nat × FieldType × Nat) => xGf "CapKernelModel" xT True e.1 e.2) ⟨"CapKernelModel", TC6, 42, tC6, rfl, by decide, inC6, wd_892, okC6, rfl, nmC6, fun _ => rfl, fun h => absurd rfl h⟩ ?_
  refine xAll_cons (p := fun e : Nat × (Nat × Nat × FieldType × Nat) => xGf "CapKernelModel" xT True e.1 e.2) ⟨"CapKernelModel", TC6, 42, tC6, rfl, by decide, inC6, wd_893, okC6, rfl, nmC6, fun h => absurd h (by decide), fun _ => Or.inr ⟨rfl, rfl, trivial⟩⟩ ?_
  refine xAll_cons (p := fun e : Nat × (Nat × Nat × FieldType × Nat) => xGf "CapKernelModel" xT True e.1 e.2) ⟨"CapKernelModel", TC6, 42, tC6, rfl, by decide, inC6, wd_894, okC6, rfl, nmC6, fun h => absurd h (by decide), fun _ => Or.inr ⟨rfl, rfl, trivial⟩⟩ ?_
  refine xAll_cons (p := fun e : Nat × (Nat × Nat × FieldType × Nat) => xGf "CapKernelModel" xT True e.1 e.2) ⟨"CapKernelModel", TC6, 42, tC6, rfl, by decide, inC6, wd_895, okC6, rfl, nmC6, fun h => absurd h (by decide), fun _ => Or.inr ⟨rfl, rfl, trivial⟩⟩ ?_
  refine xAll_cons (p := fun e : Nat × (Nat × Nat × FieldType × Nat) => xGf "CapKernelModel" xT True e.1 e.2) ⟨"CapKernelModel", TC6, 42, tC6, rfl, by decide, inC6, wd_896, okC6, rfl, nmC6, fun h => absurd h (by decide), fun _ => Or.inr ⟨rfl, rfl, trivial⟩⟩ ?_
  refine xAll_cons (p := fun e : Nat × (Nat × Nat × FieldType × Nat) => xGf "CapKernelModel" xT True e.1 e.2) ⟨"CapKernelModel", TC6, 42, tC6, rfl, by decide, inC6, wd_897, okC6, rfl, nmC6, fun h => absurd h (by decide), fun _ => Or.inr ⟨rfl, rfl, trivial⟩⟩ ?_
  refine xAll_cons (p := fun e : Nat × (Nat × Nat × FieldType × Nat) => xGf "CapKernelModel" xT True e.1 e.2) ⟨"CapKernelModel", TC6, 42, tC6, rfl, by decide, inC6, wd_899, okC6, rfl, nmC6, fun h => absurd h (by decide), fun _ => Or.inr ⟨rfl, rfl, trivial⟩⟩ ?_
  refine xAll_cons (p := fun e : Nat × (Nat × Nat × FieldType × Nat) => xGf "CapKernelModel" xT True e.1 e.2) ⟨"CapKernelModel", TC6, 42, tC6, rfl, by decide, inC6, wd_900, okC6, rfl, nmC6, fun h => absurd h (by decide), fun _ => Or.inr ⟨rfl, rfl, trivial⟩⟩ ?_
  refine xAll_cons (p := fun e : Nat × (Nat × Nat × FieldType × Nat) => xGf "CapKernelModel" xT True e.1 e.2) ⟨"CapKernelModel", TC6, 42, tC6, rfl, by decide, inC6, wd_901, okC6, rfl, nmC6, fun h => absurd h (by decide), fun _ => Or.inr ⟨rfl, rfl, trivial⟩⟩ ?_
  refine xAll_cons (p := fun e : Nat × (Nat × Nat × FieldType × Nat) => xGf "CapKernelModel" xT True e.1 e.2) ⟨"CapKernelModel", TC6, 42, tC6, rfl, by decide, inC6, wd_902, okC6, rfl, nmC6, fun h => absurd h (by decide), fun _ => Or.inr ⟨rfl, rfl, trivial⟩⟩ ?_
  refine xAll_cons (p := fun e : Nat × (Nat × Nat × FieldType × Nat) => xGf "CapKernelModel" xT True e.1 e.2) ⟨"CapKernelModel", TC6, 42, tC6, rfl, by decide, inC6, wd_903, okC6, rfl, nmC6, fun h => absurd h (by decide), fun _ => Or.inr ⟨rfl, rfl, trivial⟩⟩ ?_
  refine xAll_cons (p := fun e : Nat × (Nat × Nat × FieldType × Nat) => xGf "CapKernelModel" xT True e.1 e.2) ⟨"CapKernelModel", TC6, 42, tC6, rfl, by decide, inC6, wd_904, okC6, rfl, nmC6, fun h => absurd h (by decide), fun _ => Or.inr ⟨rfl, rfl, trivial⟩⟩ ?_
  refine xAll_cons (p := fun e : Nat × (Nat × Nat × FieldType × Nat) => xGf "CapKernelModel" xT True e.1 e.2) ⟨"CapKernelModel", TC6, 42, tC6, rfl, by decide, inC6, wd_905, okC6, rfl, nmC6, fun h => absurd h (by decide), fun _ => Or.inr ⟨rfl, rfl, trivial⟩⟩ ?_
  refine xAll_cons (p := fun e : Nat × (Nat × Nat × FieldType × Nat) => xGf "CapKernelModel" xT True e.1 e.2) ⟨"CapKernelModel", TC6, 42, tC6, rfl, by decide, inC6, wd_906, okC6, rfl, nmC6, fun h => absurd h (by decide), fun _ => Or.inr ⟨rfl, rfl, trivial⟩⟩ ?_
  refine xAll_cons (p := fun e : Nat × (Nat × Nat × FieldType × Nat) => xGf "CapKernelModel" xT True e.1 e.2) ⟨"CapKernelModel", TC6, 42, tC6, rfl, by decide, inC6, wd_907, okC6, rfl, nmC6, fun h => absurd h (by decide), fun _ => Or.inr ⟨rfl, rfl, trivial⟩⟩ ?_
  refine xAll_cons (p := fun e : Nat × (Nat × Nat × FieldType × Nat) => xGf "CapKernelModel" xT True e.1 e.2) ⟨"CapKernelModel", TC6, 42, tC6, rfl, by decide, inC6, wd_908, okC6, rfl, nmC6, fun h => absurd h (by decide), fun _ => Or.inr ⟨rfl, rfl, trivial⟩⟩ ?_
  refine xAll_cons (p := fun e : Nat × (Nat × Nat × FieldType × Nat) => xGf "CapKernelModel" xT True e.1 e.2) ⟨"CapKernelModel", TC6, 42, tC6, rfl, by decide, inC6, wd_909, okC6, rfl, nmC6, fun h => absurd h (by decide), fun _ => Or.inr ⟨rfl, rfl, trivial⟩⟩ ?_
  refine xAll_cons (p := fun e : Nat × (Nat × Nat × FieldType × Nat) => xGf "CapKernelModel" xT True e.1 e.2) ⟨"CapKernelModel", TC6, 42, tC6, rfl, by decide, inC6, wd_910, okC6, rfl, nmC6, fun h => absurd h (by decide), fun _ => Or.inr ⟨rfl, rfl, trivial⟩⟩ ?_
  refine xAll_cons (p := fun e : Nat × (Nat × Nat × FieldType × Nat) => xGf "CapKernelModel" xT True e.1 e.2) ⟨"CapKernelModel", TC6, 42, tC6, rfl, by decide, inC6, wd_911, okC6, rfl, nmC6, fun h => absurd h (by decide), fun _ => Or.inr ⟨rfl, rfl, trivial⟩⟩ ?_
  refine xAll_cons (p := fun e : Nat × (Nat × Nat × FieldType × Nat) => xGf "CapKernelModel" xT True e.1 e.2) ⟨"CapKernelModel", TC6, 42, tC6, rfl, by decide, inC6, wd_912, okC6, rfl, nmC6, fun h => absurd h (by decide), fun _ => Or.inr ⟨rfl, rfl, trivial⟩⟩ ?_
  refine xAll_cons (p := fun e : Nat × (Nat × Nat × FieldType × Nat) => xGf "CapKernelModel" xT True e.1 e.2) ⟨"CapKernelModel", TC6, 42, tC6, rfl, by decide, inC6, wd_913, okC6, rfl, nmC6, fun h => absurd h (by decide), fun _ => Or.inr ⟨rfl, rfl, trivial⟩⟩ ?_
  refine xAll_cons (p := fun e : Nat × (Nat × Nat × FieldType × Nat) => xGf "CapKernelModel" xT True e.1 e.2) ⟨"CapKernelModel", TC6, 42, tC6, rfl, by decide, inC6, wd_914, okC6, rfl, nmC6, fun h => absurd h (by decide), fun _ => Or.inr ⟨rfl, rfl, trivial⟩⟩ ?_
  refine xAll_cons (p := fun e : Nat × (Nat × Nat × FieldType × Nat) => xGf "CapKernelModel" xT True e.1 e.2) ⟨"CapKernelModel", TC6, 42, tC6, rfl, by decide, inC6, wd_915, okC6, rfl, nmC6, fun h => absurd h (by decide), fun _ => Or.inr ⟨rfl, rfl, trivial⟩⟩ ?_
  refine xAll_cons (p := fun e : Nat × (Nat × Nat × FieldType × Nat) => xGf "CapKernelModel" xT True e.1 e.2) ⟨"CapKernelModel", TC6, 42, tC6, rfl, by decide, inC6, wd_916, okC6, rfl, nmC6, fun _ => rfl, fun h => absurd rfl h⟩ ?_
  refine xAll_cons (p := fun e : Nat × (Nat × Nat × FieldType × Nat) => xGf "CapKernelModel" xT True e.1 e.2) ⟨"CapKernelModel", TC6, 42, tC6, rfl, by decide, inC6, wd_917, okC6, rfl, nmC6, fun h => absurd h (by decide), fun _ => Or.inr ⟨rfl, rfl, trivial⟩⟩ ?_
  refine xAll_cons (p := fun e : Nat × (Nat × Nat × FieldType × Nat) => xGf "CapKernelModel" xT True e.1 e.2) ⟨"CapKernelModel", TC6, 42, tC6, rfl, by decide, inC6, wd_919, okC6, rfl, nmC6, fun h => absurd h (by decide), fun _ => Or.inr ⟨rfl, rfl, trivial⟩⟩ ?_
  refine xAll_cons (p := fun e : Nat × (Nat × Nat × FieldType × Nat) => xGf "CapKernelModel" xT True e.1 e.2) ⟨"CapKernelModel", TC6, 42, tC6, rfl, by decide, inC6, wd_920, okC6, rfl, nmC6, fun h => absurd h (by decide), fun _ => Or.inr ⟨rfl, rfl, trivial⟩⟩ ?_
  refine xAll_cons (p := fun e : Nat × (Nat × Nat × FieldType × Nat) => xGf "CapKernelModel" xT True e.1 e.2) ⟨"CapKernelModel", TC6, 42, tC6, rfl, by decide, inC6, wd_926, okC6, rfl, nmC6, fun h => absurd h (by decide), fun _ => Or.inr ⟨rfl, rfl, trivial⟩⟩ ?_
  refine xAll_cons (p := fun e : Nat × (Nat × Nat × FieldType × Nat) => xGf "CapKernelModel" xT True e.1 e.2) ⟨"CapKernelModel", TC6, 42, tC6, rfl, by decide, inC6, wd_885, okC6, rfl, nmC6, fun _ => rfl, fun h => absurd rfl h⟩ ?_
  refine xAll_cons (p := fun e : Nat × (Nat × Nat × FieldType × Nat) => xGf "CapKernelModel" xT True e.1 e.2) ⟨"CapKernelModel", TC6, 42, tC6, rfl, by decide, inC6, wd_898, okC6, rfl, nmC6, fun _ => rfl, fun h => absurd rfl h⟩ ?_
  refine xAll_cons (p := fun e : Nat × (Nat × Nat × FieldType × Nat) => xGf "CapKernelModel" xT True e.1 e.2) ⟨"CapKernelModel", TC6, 42, tC6, rfl, by decide, inC6, wd_918, okC6, rfl, nmC6, fun _ => rfl, fun h => absurd rfl h⟩ ?_
  refine xAll_cons (p := fun e : Nat × (Nat × Nat × FieldType × Nat) => xGf "CapKernelModel" xT True e.1 e.2) ⟨"CapKernelModel", TC6, 42, tC6, rfl, by decide, inC6, wd_923, okC6, rfl, nmC6, fun _ => rfl, fun h => absurd rfl h⟩ ?_
  refine xAll_cons (p := fun e : Nat × (Nat × Nat × FieldType × Nat) => xGf "CapKernelModel" xT True e.1 e.2) ⟨"CapKernelModel", TC6, 42, tC6, rfl, by decide, inC6, wd_924, okC6, rfl, nmC6, fun _ => rfl, fun h => absurd rfl h⟩ ?_
  refine xAll_cons (p := fun e : Nat × (Nat × Nat × FieldType × Nat) => xGf "CapKernelModel" xT True e.1 e.2) ⟨"CapKernelModel", TC6, 42, tC6, rfl, by decide, inC6, wd_925, okC6, rfl, nmC6, fun _ => rfl, fun h => absurd rfl h⟩ ?_
  refine xAll_cons (p := fun e : Nat × (Nat × Nat × FieldType × Nat) => xGf "CapKernelModel" xT True e.1 e.2) ⟨"CapKernelModel", TC6, 42, tC6, rfl, by decide, inC6, wd_921, okC6, rfl, nmC6, fun _ => rfl, fun h => absurd rfl h⟩ ?_
  refine xAll_cons (p := fun e : Nat × (Nat × Nat × FieldType × Nat) => xGf "CapKernelModel" xT True e.1 e.2) ⟨"CapKernelModel", TC6, 42, tC6, rfl, by decide, inC6, wd_922, okC6, rfl, nmC6, fun _ => rfl, fun h => absurd rfl h⟩ ?_
  exact xAll_nil
def nw_M : List (Nat × (Nat × List Value)) := []
theorem gnw_M : ∀ e ∈ nw_M, xGn "CapKernelModel" xT e.1 e.2 := by
  unfold nw_M
  exact xAll_nil
def an_M : List (Nat × Nat) := []
theorem gan_M : ∀ e ∈ an_M, xGa "CapKernelModel" xT e.1 e.2 := by
  unfold an_M
  exact xAll_nil
def cs_M : List (Nat × Nat) := []
theorem gcs_M : ∀ e ∈ cs_M, xGc "CapKernelModel" xT e.1 e.2 := by
  unfold cs_M
  exact xAll_nil
