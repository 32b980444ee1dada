/-! What the list's methods do: their contracts. Laid by gen14.py. -/
theorem gfl14_AL {ini : Prop} : ∀ e ∈ fl_AL, xGf "java/util/ArrayList" xT ini e.1 e.2 := by
  unfold fl_AL
  refine xAll_cons (p := fun e : Nat × (Nat × Nat × FieldType × Nat) => xGf "java/util/ArrayList" xT ini e.1 e.2) ⟨"java/util/ArrayList", TC7, 3, tC7, rfl, by decide, inC7, we_77, okC7, rfl, nmC7, fun _ => rfl, fun h => absurd rfl h⟩ ?_
  refine xAll_cons (p := fun e : Nat × (Nat × Nat × FieldType × Nat) => xGf "java/util/ArrayList" xT ini e.1 e.2) ⟨"java/util/ArrayList", TC7, 3, tC7, rfl, by decide, inC7, we_78, okC7, rfl, nmC7, fun _ => rfl, fun h => absurd rfl h⟩ ?_
  exact xAll_nil
theorem np14_ac_new : (parseMethodDescriptor y_ac_new.desc).map (fun d => d.parameters.length) = some 0 := by decide +kernel
theorem ck14_ac_new : xchk prog_20_method_1_code 1 tb_ac_new = true := by decide +kernel
theorem ct_ac_new (z : xzs) (l : Launch) (hl : l.stackTraces = false) : xCt z l y_ac_new w_ac_new 1 20 (f_ac_new) := by
  refine xCt_ofS (K := K_ac_new) (own := "java/util/AbstractCollection") (T := []) (by decide +kernel) rfl rfl (xGood_of (ini0 := True) wd_186 wd_204 ck14_ac_new (fun _ => rfl) ?_ xAll_nil ?_ xAll_nil ?_) ?_ (run_ac_new)
  · exact xAll_nil
  · exact xAll_nil
  · show ∀ e ∈ (_ : List (Nat × xC)), xGcall z l "java/util/AbstractCollection" w_ac_new 1 20 e.1 e.2
    refine xAll_cons (p := fun e : Nat × xC => xGcall z l "java/util/AbstractCollection" w_ac_new 1 20 e.1 e.2) (Or.inl ⟨rfl, xup we_0, xup we_1, xup we_2, by decide, by decide⟩) ?_
    exact xAll_nil
  · exact xAll_nil
theorem np14_al_new : (parseMethodDescriptor y_al_new.desc).map (fun d => d.parameters.length) = some 0 := by decide +kernel
theorem ck14_al_new : xchk prog_21_method_1_code 1 tb_al_new = true := by decide +kernel
theorem ct_al_new (z : xzs) (l : Launch) (hl : l.stackTraces = false) : xCt z l y_al_new w_al_new 2 40 (f_al_new) := by
  refine xCt_ofS (K := K_al_new) (own := "java/util/AbstractList") (T := []) (by decide +kernel) rfl rfl (xGood_of (ini0 := True) wd_186 wd_204 ck14_al_new (fun _ => rfl) ?_ xAll_nil ?_ xAll_nil ?_) ?_ (run_al_new)
  · exact xAll_cons (p := fun e : Nat × (Nat × Nat × FieldType × Nat) => xGf "java/util/AbstractList" xT True e.1 e.2) ⟨"java/util/ArrayList", TC7, 3, tC7, rfl, by decide, inC7, we_3, okC7, rfl, nmC7, fun _ => rfl, fun h => absurd rfl h⟩ xAll_nil
  · exact xAll_nil
  · show ∀ e ∈ (_ : List (Nat × xC)), xGcall z l "java/util/AbstractList" w_al_new 2 40 e.1 e.2
    refine xAll_cons (p := fun e : Nat × xC => xGcall z l "java/util/AbstractList" w_al_new 2 40 e.1 e.2) (Or.inr (Or.inr ⟨y_ac_new, prog_20_method_1_code, 1, none, w_ac_new, xT, 1, 20, ct_ac_new z l hl, rfl, ⟨by decide, by decide⟩, ⟨by decide +kernel, by decide +kernel, np14_ac_new⟩, ⟨xGood_in we_5, xup we_6, xup we_7⟩, Or.inr (Or.inr ⟨rfl, rfl, rfl, xup we_4⟩)⟩)) ?_
    exact xAll_nil
  · exact xAll_nil
theorem np14_A_new : (parseMethodDescriptor y_A_new.desc).map (fun d => d.parameters.length) = some 0 := by decide +kernel
theorem ck14_A_new : xchk prog_22_method_2_code 1 tb_A_new = true := by decide +kernel
theorem ct_A_new (z : xzs) (l : Launch) (hl : l.stackTraces = false) : xCt z l y_A_new w_A_new 3 100 (f_A_new z) := by
  refine xCt_ofS (K := K_A_new) (own := "java/util/ArrayList") (T := [(5, sp_gets (.ref z.1))]) (by decide +kernel) rfl rfl (xGood_of (ini0 := True) wd_186 wd_204 ck14_A_new (fun _ => rfl) ?_ xAll_nil ?_ xAll_nil ?_) ?_ (run_A_new z)
  · exact gfl14_AL (ini := True)
  · exact xAll_nil
  · show ∀ e ∈ (_ : List (Nat × xC)), xGcall z l "java/util/ArrayList" w_A_new 3 100 e.1 e.2
    refine xAll_cons (p := fun e : Nat × xC => xGcall z l "java/util/ArrayList" w_A_new 3 100 e.1 e.2) (Or.inr (Or.inr ⟨y_al_new, prog_21_method_1_code, 1, none, w_al_new, xT, 2, 40, ct_al_new z l hl, rfl, ⟨by decide, by decide⟩, ⟨by decide +kernel, by decide +kernel, np14_al_new⟩, ⟨xGood_in we_9, xup we_10, xup we_11⟩, Or.inr (Or.inr ⟨rfl, rfl, rfl, xup we_8⟩)⟩)) ?_
    exact xAll_nil
  · show ∀ e ∈ (_ : List (Nat × (xX → Option xX))), xSpM e.2 ∧ xSpO z l "java/util/ArrayList" prog_22_method_2_code 1 w_A_new 3 100 e.2 e.1
    refine xAll_cons (p := fun e : Nat × (xX → Option xX) => xSpM e.2 ∧ xSpO z l "java/util/ArrayList" prog_22_method_2_code 1 w_A_new 3 100 e.2 e.1) (sok_gets we_14 (by dsimp only; decide +kernel)) ?_
    exact xAll_nil
theorem np14_A_size : (parseMethodDescriptor y_A_size.desc).map (fun d => d.parameters.length) = some 0 := by decide +kernel
theorem ck14_A_size : xchk prog_22_method_8_code 1 tb_A_size = true := by decide +kernel
theorem ct_A_size (z : xzs) (l : Launch) (hl : l.stackTraces = false) : xCt z l y_A_size w_A_size 0 0 (f_A_size z) := by
  refine xCt_ofS (K := K_A_size) (own := "java/util/ArrayList") (T := []) (by decide +kernel) rfl rfl (xGood_of (ini0 := False) wd_186 wd_204 ck14_A_size False.elim ?_ xAll_nil ?_ xAll_nil ?_) ?_ (run_A_size z)
  · exact gfl14_AL (ini := False)
  · exact xAll_nil
  · exact xAll_nil
  · exact xAll_nil
theorem np14_pci : (parseMethodDescriptor y_pci.desc).map (fun d => d.parameters.length) = some 3 := by decide +kernel
theorem ck14_pci : xchk prog_31_method_11_code 3 tb_pci = true := by decide +kernel
theorem ct_pci (z : xzs) (l : Launch) (hl : l.stackTraces = false) : xCt z l y_pci w_pci 0 0 (f_pci) := by
  refine xCt_ofS (K := K_pci) (own := "jdk/internal/util/Preconditions") (T := []) (by decide +kernel) rfl rfl (xGood_of (ini0 := False) wd_186 wd_204 ck14_pci False.elim ?_ xAll_nil ?_ xAll_nil ?_) ?_ (run_pci)
  · exact xAll_nil
  · exact xAll_nil
  · exact xAll_nil
  · exact xAll_nil
theorem np14_oci : (parseMethodDescriptor y_oci.desc).map (fun d => d.parameters.length) = some 2 := by decide +kernel
theorem ck14_oci : xchk prog_27_method_17_code 2 tb_oci = true := by decide +kernel
theorem ct_oci (z : xzs) (l : Launch) (hl : l.stackTraces = false) : xCt z l y_oci w_oci 1 22 (f_oci) := by
  refine xCt_ofS (K := K_oci) (own := "java/util/Objects") (T := []) (by decide +kernel) rfl rfl (xGood_of (ini0 := False) wd_186 wd_204 ck14_oci False.elim ?_ xAll_nil ?_ xAll_nil ?_) ?_ (run_oci)
  · exact xAll_nil
  · exact xAll_nil
  · show ∀ e ∈ (_ : List (Nat × xC)), xGcall z l "java/util/Objects" w_oci 1 22 e.1 e.2
    refine xAll_cons (p := fun e : Nat × xC => xGcall z l "java/util/Objects" w_oci 1 22 e.1 e.2) (Or.inr (Or.inr ⟨y_pci, prog_31_method_11_code, 3, some .int, w_pci, xT, 0, 0, ct_pci z l hl, rfl, ⟨by decide, by decide⟩, ⟨by decide +kernel, by decide +kernel, np14_pci⟩, ⟨xGood_in we_16, xup we_17, xup we_18⟩, Or.inl ⟨rfl, xup we_15⟩⟩)) ?_
    exact xAll_nil
  · exact xAll_nil
theorem np14_ed : (parseMethodDescriptor y_ed.desc).map (fun d => d.parameters.length) = some 1 := by decide +kernel
theorem ck14_ed : xchk prog_22_method_18_code 2 tb_ed = true := by decide +kernel
theorem ct_ed (z : xzs) (l : Launch) (hl : l.stackTraces = false) : xCt z l y_ed w_ed 0 0 (f_ed) := by
  refine xCt_ofS (K := K_ed) (own := "java/util/ArrayList") (T := []) (by decide +kernel) rfl rfl (xGood_of (ini0 := False) wd_186 wd_204 ck14_ed False.elim ?_ xAll_nil ?_ xAll_nil ?_) ?_ (run_ed)
  · exact gfl14_AL (ini := False)
  · exact xAll_nil
  · exact xAll_nil
  · exact xAll_nil
theorem np14_A_get : (parseMethodDescriptor y_A_get.desc).map (fun d => d.parameters.length) = some 1 := by decide +kernel
theorem ck14_A_get : xchk prog_22_method_20_code 2 tb_A_get = true := by decide +kernel
theorem ct_A_get (z : xzs) (l : Launch) (hl : l.stackTraces = false) : xCt z l y_A_get w_A_get 4 150 (f_A_get z) := by
  refine xCt_ofS (K := K_A_get) (own := "java/util/ArrayList") (T := []) (by decide +kernel) rfl rfl (xGood_of (ini0 := False) wd_186 wd_204 ck14_A_get False.elim ?_ xAll_nil ?_ xAll_nil ?_) ?_ (run_A_get z)
  · exact gfl14_AL (ini := False)
  · exact xAll_nil
  · show ∀ e ∈ (_ : List (Nat × xC)), xGcall z l "java/util/ArrayList" w_A_get 4 150 e.1 e.2
    refine xAll_cons (p := fun e : Nat × xC => xGcall z l "java/util/ArrayList" w_A_get 4 150 e.1 e.2) (Or.inr (Or.inr ⟨y_oci, prog_27_method_17_code, 2, some .int, w_oci, xT, 1, 22, ct_oci z l hl, rfl, ⟨by decide, by decide⟩, ⟨by decide +kernel, by decide +kernel, np14_oci⟩, ⟨xGood_in we_20, xup we_21, xup we_22⟩, Or.inl ⟨rfl, xup we_19⟩⟩)) ?_
    refine xAll_cons (p := fun e : Nat × xC => xGcall z l "java/util/ArrayList" w_A_get 4 150 e.1 e.2) (Or.inr (Or.inr ⟨y_ed, prog_22_method_18_code, 2, some (.object "java/lang/Object"), w_ed, xT, 0, 0, ct_ed z l hl, rfl, ⟨by decide, by decide⟩, ⟨by decide +kernel, by decide +kernel, np14_ed⟩, ⟨xGood_in we_25, xup we_26, xup we_27⟩, Or.inr (Or.inl ⟨rfl, ⟨xup we_23, xup we_24⟩, ("java/util/ArrayList", TC7, 3), rfl, rfl⟩)⟩)) ?_
    exact xAll_nil
  · exact xAll_nil
theorem np14_nl : (parseMethodDescriptor y_nl.desc).map (fun d => d.parameters.length) = some 3 := by decide +kernel
theorem ck14_nl : xchk prog_30_method_27_code 4 tb_nl = true := by decide +kernel
theorem ct_nl (z : xzs) (l : Launch) (hl : l.stackTraces = false) : xCt z l y_nl w_nl 1 21 (f_nl) := by
  refine xCt_ofS (K := K_nl) (own := "jdk/internal/util/ArraysSupport") (T := [(3, sp_max), (14, sp_ldc (.int 2147483639))]) (by decide +kernel) rfl rfl (xGood_of (ini0 := False) wd_186 wd_204 ck14_nl False.elim ?_ xAll_nil ?_ xAll_nil ?_) ?_ (run_nl)
  · exact xAll_nil
  · exact xAll_nil
  · exact xAll_nil
  · show ∀ e ∈ (_ : List (Nat × (xX → Option xX))), xSpM e.2 ∧ xSpO z l "jdk/internal/util/ArraysSupport" prog_30_method_27_code 4 w_nl 1 21 e.2 e.1
    refine xAll_cons (p := fun e : Nat × (xX → Option xX) => xSpM e.2 ∧ xSpO z l "jdk/internal/util/ArraysSupport" prog_30_method_27_code 4 w_nl 1 21 e.2 e.1) (sok_max we_28 we_29 we_30 we_31 (by decide) (by decide) (by dsimp only; decide +kernel)) ?_
    refine xAll_cons (p := fun e : Nat × (xX → Option xX) => xSpM e.2 ∧ xSpO z l "jdk/internal/util/ArraysSupport" prog_30_method_27_code 4 w_nl 1 21 e.2 e.1) (sok_ldcI we_32 (by dsimp only; decide +kernel)) ?_
    exact xAll_nil
theorem np14_co3 : (parseMethodDescriptor y_co3.desc).map (fun d => d.parameters.length) = some 3 := by decide +kernel
theorem ck14_co3 : xchk prog_23_method_120_code 4 tb_co3 = true := by decide +kernel
theorem ct_co3 (z : xzs) (l : Launch) (hl : l.stackTraces = false) : xCt z l y_co3 w_co3 1 60 (f_co3 z) := by
  refine xCt_ofS (K := K_co3) (own := "java/util/Arrays") (T := [(1, sp_ldc (.ref z.2.2.2)), (32, sp_min), (35, sp_copy)]) (by decide +kernel) rfl rfl (xGood_of (ini0 := False) wd_186 wd_204 ck14_co3 False.elim ?_ xAll_nil ?_ xAll_nil ?_) ?_ (run_co3 z)
  · exact xAll_nil
  · exact xAll_cons (p := fun e : Nat × Nat => xGa "java/util/Arrays" xT e.1 e.2) ⟨"java/lang/Object", rfl, we_33⟩ xAll_nil
  · exact xAll_nil
  · show ∀ e ∈ (_ : List (Nat × (xX → Option xX))), xSpM e.2 ∧ xSpO z l "java/util/Arrays" prog_23_method_120_code 4 w_co3 1 60 e.2 e.1
    refine xAll_cons (p := fun e : Nat × (xX → Option xX) => xSpM e.2 ∧ xSpO z l "java/util/Arrays" prog_23_method_120_code 4 w_co3 1 60 e.2 e.1) (sok_ldcM we_34 (by dsimp only; decide +kernel)) ?_
    refine xAll_cons (p := fun e : Nat × (xX → Option xX) => xSpM e.2 ∧ xSpO z l "java/util/Arrays" prog_23_method_120_code 4 w_co3 1 60 e.2 e.1) (sok_min we_35 we_36 we_30 we_37 (by decide) (by decide) (by dsimp only; decide +kernel)) ?_
    refine xAll_cons (p := fun e : Nat × (xX → Option xX) => xSpM e.2 ∧ xSpO z l "java/util/Arrays" prog_23_method_120_code 4 w_co3 1 60 e.2 e.1) (sok_copy we_12 we_13 we_38 we_39 we_40 we_41 (by decide) (by decide +kernel) (by dsimp only; decide +kernel)) ?_
    exact xAll_nil
theorem np14_co2 : (parseMethodDescriptor y_co2.desc).map (fun d => d.parameters.length) = some 2 := by decide +kernel
theorem ck14_co2 : xchk prog_23_method_119_code 2 tb_co2 = true := by decide +kernel
theorem ct_co2 (z : xzs) (l : Launch) (hl : l.stackTraces = false) : xCt z l y_co2 w_co2 2 83 (f_co2 z) := by
  refine xCt_ofS (K := K_co2 z) (own := "java/util/Arrays") (T := [(3, sp_getC z.2.2.2)]) (by decide +kernel) rfl rfl (xGood_of (ini0 := False) wd_186 wd_204 ck14_co2 False.elim ?_ xAll_nil ?_ xAll_nil ?_) ?_ (run_co2 z)
  · exact xAll_nil
  · exact xAll_nil
  · show ∀ e ∈ (_ : List (Nat × xC)), xGcall z l "java/util/Arrays" w_co2 2 83 e.1 e.2
    refine xAll_cons (p := fun e : Nat × xC => xGcall z l "java/util/Arrays" w_co2 2 83 e.1 e.2) (Or.inr (Or.inr ⟨y_co3, prog_23_method_120_code, 4, some (.array (.object "java/lang/Object")), w_co3, xT, 1, 60, ct_co3 z l hl, rfl, ⟨by decide, by decide⟩, ⟨by decide +kernel, by decide +kernel, np14_co3⟩, ⟨xGood_in we_43, xup we_44, xup we_45⟩, Or.inl ⟨rfl, xup we_42⟩⟩)) ?_
    exact xAll_nil
  · show ∀ e ∈ (_ : List (Nat × (xX → Option xX))), xSpM e.2 ∧ xSpO z l "java/util/Arrays" prog_23_method_119_code 2 w_co2 2 83 e.2 e.1
    refine xAll_cons (p := fun e : Nat × (xX → Option xX) => xSpM e.2 ∧ xSpO z l "java/util/Arrays" prog_23_method_119_code 2 w_co2 2 83 e.2 e.1) (sok_getC we_46 we_13 we_47 we_48 (by decide) (by decide) (by dsimp only; decide +kernel)) ?_
    exact xAll_nil
theorem np14_gr1 : (parseMethodDescriptor y_gr1.desc).map (fun d => d.parameters.length) = some 1 := by decide +kernel
theorem ck14_gr1 : xchk prog_22_method_6_code 4 tb_gr1 = true := by decide +kernel
theorem ct_gr1 (z : xzs) (l : Launch) (hl : l.stackTraces = false) : xCt z l y_gr1 w_gr1 3 104 (f_gr1 z) := by
  refine xCt_ofS (K := K_gr1 z) (own := "java/util/ArrayList") (T := [(4, sp_alen z.1), (14, sp_gets (.ref z.1)), (49, sp_max)]) (by decide +kernel) rfl rfl (xGood_of (ini0 := False) wd_186 wd_204 ck14_gr1 False.elim ?_ xAll_nil ?_ xAll_nil ?_) ?_ (run_gr1 z)
  · exact gfl14_AL (ini := False)
  · exact xAll_cons (p := fun e : Nat × Nat => xGa "java/util/ArrayList" xT e.1 e.2) ⟨"java/lang/Object", rfl, we_49⟩ xAll_nil
  · show ∀ e ∈ (_ : List (Nat × xC)), xGcall z l "java/util/ArrayList" w_gr1 3 104 e.1 e.2
    refine xAll_cons (p := fun e : Nat × xC => xGcall z l "java/util/ArrayList" w_gr1 3 104 e.1 e.2) (Or.inr (Or.inr ⟨y_nl, prog_30_method_27_code, 4, some .int, w_nl, xT, 1, 21, ct_nl z l hl, rfl, ⟨by decide, by decide⟩, ⟨by decide +kernel, by decide +kernel, np14_nl⟩, ⟨xGood_in we_51, xup we_52, xup we_53⟩, Or.inl ⟨rfl, xup we_50⟩⟩)) ?_
    refine xAll_cons (p := fun e : Nat × xC => xGcall z l "java/util/ArrayList" w_gr1 3 104 e.1 e.2) (Or.inr (Or.inr ⟨y_co2, prog_23_method_119_code, 2, some (.array (.object "java/lang/Object")), w_co2, xT, 2, 83, ct_co2 z l hl, rfl, ⟨by decide, by decide⟩, ⟨by decide +kernel, by decide +kernel, np14_co2⟩, ⟨xGood_in we_55, xup we_44, xup we_56⟩, Or.inl ⟨rfl, xup we_54⟩⟩)) ?_
    exact xAll_nil
  · show ∀ e ∈ (_ : List (Nat × (xX → Option xX))), xSpM e.2 ∧ xSpO z l "java/util/ArrayList" prog_22_method_6_code 4 w_gr1 3 104 e.2 e.1
    refine xAll_cons (p := fun e : Nat × (xX → Option xX) => xSpM e.2 ∧ xSpO z l "java/util/ArrayList" prog_22_method_6_code 4 w_gr1 3 104 e.2 e.1) (sok_alen (by dsimp only; decide +kernel)) ?_
    refine xAll_cons (p := fun e : Nat × (xX → Option xX) => xSpM e.2 ∧ xSpO z l "java/util/ArrayList" prog_22_method_6_code 4 w_gr1 3 104 e.2 e.1) (sok_gets we_14 (by dsimp only; decide +kernel)) ?_
    refine xAll_cons (p := fun e : Nat × (xX → Option xX) => xSpM e.2 ∧ xSpO z l "java/util/ArrayList" prog_22_method_6_code 4 w_gr1 3 104 e.2 e.1) (sok_max we_57 we_29 we_30 we_31 (by decide) (by decide) (by dsimp only; decide +kernel)) ?_
    exact xAll_nil
theorem np14_gr0 : (parseMethodDescriptor y_gr0.desc).map (fun d => d.parameters.length) = some 0 := by decide +kernel
theorem ck14_gr0 : xchk prog_22_method_7_code 1 tb_gr0 = true := by decide +kernel
theorem ct_gr0 (z : xzs) (l : Launch) (hl : l.stackTraces = false) : xCt z l y_gr0 w_gr0 4 127 (f_gr0 z) := by
  refine xCt_ofS (K := K_gr0 z) (own := "java/util/ArrayList") (T := []) (by decide +kernel) rfl rfl (xGood_of (ini0 := False) wd_186 wd_204 ck14_gr0 False.elim ?_ xAll_nil ?_ xAll_nil ?_) ?_ (run_gr0 z)
  · exact gfl14_AL (ini := False)
  · exact xAll_nil
  · show ∀ e ∈ (_ : List (Nat × xC)), xGcall z l "java/util/ArrayList" w_gr0 4 127 e.1 e.2
    refine xAll_cons (p := fun e : Nat × xC => xGcall z l "java/util/ArrayList" w_gr0 4 127 e.1 e.2) (Or.inr (Or.inr ⟨y_gr1, prog_22_method_6_code, 4, some (.array (.object "java/lang/Object")), w_gr1, xT, 3, 104, ct_gr1 z l hl, rfl, ⟨by decide, by decide⟩, ⟨by decide +kernel, by decide +kernel, np14_gr1⟩, ⟨xGood_in we_60, xup we_26, xup we_61⟩, Or.inr (Or.inl ⟨rfl, ⟨xup we_58, xup we_59⟩, ("java/util/ArrayList", TC7, 3), rfl, rfl⟩)⟩)) ?_
    exact xAll_nil
  · exact xAll_nil
theorem np14_add3 : (parseMethodDescriptor y_add3.desc).map (fun d => d.parameters.length) = some 3 := by decide +kernel
theorem ck14_add3 : xchk prog_22_method_24_code 4 tb_add3 = true := by decide +kernel
theorem ct_add3 (z : xzs) (l : Launch) (hl : l.stackTraces = false) : xCt z l y_add3 w_add3 5 147 (f_add3 z) := by
  refine xCt_ofS (K := K_add3 z) (own := "java/util/ArrayList") (T := [(2, sp_alen z.1), (14, sp_aast)]) (by decide +kernel) rfl rfl (xGood_of (ini0 := False) wd_186 wd_204 ck14_add3 False.elim ?_ xAll_nil ?_ xAll_nil ?_) ?_ (run_add3 z)
  · exact gfl14_AL (ini := False)
  · exact xAll_nil
  · show ∀ e ∈ (_ : List (Nat × xC)), xGcall z l "java/util/ArrayList" w_add3 5 147 e.1 e.2
    refine xAll_cons (p := fun e : Nat × xC => xGcall z l "java/util/ArrayList" w_add3 5 147 e.1 e.2) (Or.inr (Or.inr ⟨y_gr0, prog_22_method_7_code, 1, some (.array (.object "java/lang/Object")), w_gr0, xT, 4, 127, ct_gr0 z l hl, rfl, ⟨by decide, by decide⟩, ⟨by decide +kernel, by decide +kernel, np14_gr0⟩, ⟨xGood_in we_64, xup we_26, xup we_65⟩, Or.inr (Or.inl ⟨rfl, ⟨xup we_62, xup we_63⟩, ("java/util/ArrayList", TC7, 3), rfl, rfl⟩)⟩)) ?_
    exact xAll_nil
  · show ∀ e ∈ (_ : List (Nat × (xX → Option xX))), xSpM e.2 ∧ xSpO z l "java/util/ArrayList" prog_22_method_24_code 4 w_add3 5 147 e.2 e.1
    refine xAll_cons (p := fun e : Nat × (xX → Option xX) => xSpM e.2 ∧ xSpO z l "java/util/ArrayList" prog_22_method_24_code 4 w_add3 5 147 e.2 e.1) (sok_alen (by dsimp only; decide +kernel)) ?_
    refine xAll_cons (p := fun e : Nat × (xX → Option xX) => xSpM e.2 ∧ xSpO z l "java/util/ArrayList" prog_22_method_24_code 4 w_add3 5 147 e.2 e.1) (sok_aast we_12 we_13 (by dsimp only; decide +kernel)) ?_
    exact xAll_nil
theorem np14_A_add : (parseMethodDescriptor y_A_add.desc).map (fun d => d.parameters.length) = some 1 := by decide +kernel
theorem ck14_A_add : xchk prog_22_method_25_code 2 tb_A_add = true := by decide +kernel
theorem ct_A_add (z : xzs) (l : Launch) (hl : l.stackTraces = false) : xCt z l y_A_add w_A_add 8 300 (f_A_add z) := by
  refine xCt_ofS (K := K_A_add z) (own := "java/util/ArrayList") (T := [(2, sp_get 7 1), (7, sp_put 7 1)]) (by decide +kernel) rfl rfl (xGood_of (ini0 := False) wd_186 wd_204 ck14_A_add False.elim ?_ xAll_nil ?_ xAll_nil ?_) ?_ (run_A_add z)
  · exact gfl14_AL (ini := False)
  · exact xAll_nil
  · show ∀ e ∈ (_ : List (Nat × xC)), xGcall z l "java/util/ArrayList" w_A_add 8 300 e.1 e.2
    refine xAll_cons (p := fun e : Nat × xC => xGcall z l "java/util/ArrayList" w_A_add 8 300 e.1 e.2) (Or.inr (Or.inr ⟨y_add3, prog_22_method_24_code, 4, none, w_add3, xT, 5, 147, ct_add3 z l hl, rfl, ⟨by decide, by decide⟩, ⟨by decide +kernel, by decide +kernel, np14_add3⟩, ⟨xGood_in we_68, xup we_26, xup we_69⟩, Or.inr (Or.inl ⟨rfl, ⟨xup we_66, xup we_67⟩, ("java/util/ArrayList", TC7, 3), rfl, rfl⟩)⟩)) ?_
    exact xAll_nil
  · show ∀ e ∈ (_ : List (Nat × (xX → Option xX))), xSpM e.2 ∧ xSpO z l "java/util/ArrayList" prog_22_method_25_code 2 w_A_add 8 300 e.2 e.1
    refine xAll_cons (p := fun e : Nat × (xX → Option xX) => xSpM e.2 ∧ xSpO z l "java/util/ArrayList" prog_22_method_25_code 2 w_A_add 8 300 e.2 e.1) (sok_get we_70 we_71 (by dsimp only; decide +kernel)) ?_
    refine xAll_cons (p := fun e : Nat × (xX → Option xX) => xSpM e.2 ∧ xSpO z l "java/util/ArrayList" prog_22_method_25_code 2 w_A_add 8 300 e.2 e.1) (sok_put we_70 we_71 (by dsimp only; decide +kernel)) ?_
    exact xAll_nil
theorem np14_fr : (parseMethodDescriptor y_fr.desc).map (fun d => d.parameters.length) = some 2 := by decide +kernel
theorem ck14_fr : xchk prog_22_method_39_code 4 tb_fr = true := by decide +kernel
theorem ct_fr (z : xzs) (l : Launch) (hl : l.stackTraces = false) : xCt z l y_fr w_fr 1 60 (f_fr) := by
  refine xCt_ofS (K := K_fr) (own := "java/util/ArrayList") (T := [(2, sp_get 7 1), (7, sp_put 7 1), (31, sp_copy)]) (by decide +kernel) rfl rfl (xGood_of (ini0 := False) wd_186 wd_204 ck14_fr False.elim ?_ xAll_nil ?_ xAll_nil ?_) ?_ (run_fr)
  · exact gfl14_AL (ini := False)
  · exact xAll_nil
  · exact xAll_nil
  · show ∀ e ∈ (_ : List (Nat × (xX → Option xX))), xSpM e.2 ∧ xSpO z l "java/util/ArrayList" prog_22_method_39_code 4 w_fr 1 60 e.2 e.1
    refine xAll_cons (p := fun e : Nat × (xX → Option xX) => xSpM e.2 ∧ xSpO z l "java/util/ArrayList" prog_22_method_39_code 4 w_fr 1 60 e.2 e.1) (sok_get we_70 we_71 (by dsimp only; decide +kernel)) ?_
    refine xAll_cons (p := fun e : Nat × (xX → Option xX) => xSpM e.2 ∧ xSpO z l "java/util/ArrayList" prog_22_method_39_code 4 w_fr 1 60 e.2 e.1) (sok_put we_70 we_71 (by dsimp only; decide +kernel)) ?_
    refine xAll_cons (p := fun e : Nat × (xX → Option xX) => xSpM e.2 ∧ xSpO z l "java/util/ArrayList" prog_22_method_39_code 4 w_fr 1 60 e.2 e.1) (sok_copy we_12 we_13 we_72 we_39 we_40 we_41 (by decide) (by decide +kernel) (by dsimp only; decide +kernel)) ?_
    exact xAll_nil
theorem np14_A_remove : (parseMethodDescriptor y_A_remove.desc).map (fun d => d.parameters.length) = some 1 := by decide +kernel
theorem ck14_A_remove : xchk prog_22_method_29_code 4 tb_A_remove = true := by decide +kernel
theorem ct_A_remove (z : xzs) (l : Launch) (hl : l.stackTraces = false) : xCt z l y_A_remove w_A_remove 6 250 (f_A_remove z) := by
  refine xCt_ofS (K := K_A_remove) (own := "java/util/ArrayList") (T := []) (by decide +kernel) rfl rfl (xGood_of (ini0 := False) wd_186 wd_204 ck14_A_remove False.elim ?_ xAll_nil ?_ xAll_nil ?_) ?_ (run_A_remove z)
  · exact gfl14_AL (ini := False)
  · exact xAll_nil
  · show ∀ e ∈ (_ : List (Nat × xC)), xGcall z l "java/util/ArrayList" w_A_remove 6 250 e.1 e.2
    refine xAll_cons (p := fun e : Nat × xC => xGcall z l "java/util/ArrayList" w_A_remove 6 250 e.1 e.2) (Or.inr (Or.inr ⟨y_oci, prog_27_method_17_code, 2, some .int, w_oci, xT, 1, 22, ct_oci z l hl, rfl, ⟨by decide, by decide⟩, ⟨by decide +kernel, by decide +kernel, np14_oci⟩, ⟨xGood_in we_20, xup we_21, xup we_22⟩, Or.inl ⟨rfl, xup we_19⟩⟩)) ?_
    refine xAll_cons (p := fun e : Nat × xC => xGcall z l "java/util/ArrayList" w_A_remove 6 250 e.1 e.2) (Or.inr (Or.inr ⟨y_fr, prog_22_method_39_code, 4, none, w_fr, xT, 1, 60, ct_fr z l hl, rfl, ⟨by decide, by decide⟩, ⟨by decide +kernel, by decide +kernel, np14_fr⟩, ⟨xGood_in we_75, xup we_26, xup we_76⟩, Or.inr (Or.inl ⟨rfl, ⟨xup we_73, xup we_74⟩, ("java/util/ArrayList", TC7, 3), rfl, rfl⟩)⟩)) ?_
    exact xAll_nil
  · exact xAll_nil
