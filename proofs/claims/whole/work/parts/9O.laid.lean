/-! What the law's calls need: words, contracts. Laid by law2.py. -/
theorem wd_54 : Cond.initialized "CapKernelLaw" ∈ xT := xT_at 54 (by decide +kernel) (by decide +kernel)
theorem wd_438 : Cond.methodLink "CapKernelLaw" 74 y_W_copy ∈ xT := xT_at 438 (by decide +kernel) (by decide +kernel)
theorem wd_439 : Cond.static y_W_copy ∈ xT := xT_at 439 (by decide +kernel) (by decide +kernel)
theorem np_W_copy : (parseMethodDescriptor y_W_copy.desc).map (fun d => d.parameters.length) = some 5 := by decide +kernel
theorem cg_copy (z : xzs) (l : Launch) (hl : l.stackTraces = false) (xs : Nat → Int32) (i : Int32) : cGood z l y_W_copy (3 + 2) 74 (f_K_copy z) (lAs xs i 3) := ⟨method_3_code, 6, 12 + 1, 8 + (7 + 11) + 464, 12, ph_W_copy, wg_W_copy z l hl (lV xs i 1) (lV xs i 2) (lV xs i 3), wd_440, wd_54, wd_438, wd_439, ⟨by decide +kernel, by decide +kernel, np_W_copy⟩, ⟨by decide, by decide⟩⟩
theorem ao_copy : armOk 124 3 74 79 := by
  unfold armOk ldOk tl
  decide +kernel
theorem wd_1016 : Cond.methodLink "CapKernelLaw" 79 y_M_copy ∈ xT := xT_at 1016 (by decide +kernel) (by decide +kernel)
theorem wd_1017 : Cond.instanceMethod y_M_copy ∈ xT := xT_at 1017 (by decide +kernel) (by decide +kernel)
theorem wd_1018 : Cond.selects "CapKernelModel" y_M_copy y_M_copy ∈ xT := xT_at 1018 (by decide +kernel) (by decide +kernel)
theorem mg_m_copy (z : xzs) (l : Launch) (hl : l.stackTraces = false) : mGood z l y_M_copy 3 79 (f_M_copy z) := ⟨prog_8_method_25_code, 4, 3, 67, ct_M_copy z l hl, wd_1019, wd_68, wd_1016, wd_1017, wd_1018, ⟨by decide +kernel, by decide +kernel, np_M_copy⟩, ⟨by decide, by decide⟩⟩
theorem wd_1012 : Cond.methodLink "CapKernelLaw" 80 y_M_thrown ∈ xT := xT_at 1012 (by decide +kernel) (by decide +kernel)
theorem wd_1013 : Cond.instanceMethod y_M_thrown ∈ xT := xT_at 1013 (by decide +kernel) (by decide +kernel)
theorem wd_1014 : Cond.selects "CapKernelModel" y_M_thrown y_M_thrown ∈ xT := xT_at 1014 (by decide +kernel) (by decide +kernel)
theorem mg_m_thrown (z : xzs) (l : Launch) (hl : l.stackTraces = false) : mGood z l y_M_thrown 0 80 (f_M_thrown z) := ⟨prog_8_method_4_code, 1, 0, 0, ct_M_thrown z l hl, wd_1015, wd_68, wd_1012, wd_1013, wd_1014, ⟨by decide +kernel, by decide +kernel, np_M_thrown⟩, ⟨by decide, by decide⟩⟩
theorem wd_583 : Cond.methodLink "CapKernelLaw" 83 y_W_mint ∈ xT := xT_at 583 (by decide +kernel) (by decide +kernel)
theorem wd_584 : Cond.static y_W_mint ∈ xT := xT_at 584 (by decide +kernel) (by decide +kernel)
theorem np_W_mint : (parseMethodDescriptor y_W_mint.desc).map (fun d => d.parameters.length) = some 6 := by decide +kernel
theorem cg_mint (z : xzs) (l : Launch) (hl : l.stackTraces = false) (xs : Nat → Int32) (i : Int32) : cGood z l y_W_mint (4 + 2) 83 (f_K_mint z) (lAs xs i 4) := ⟨method_4_code, 7, 12 + 1, 8 + (9 + 11) + 464, 14, ph_W_mint, wg_W_mint z l hl (lV xs i 1) (lV xs i 2) (lV xs i 3) (lV xs i 4), wd_585, wd_54, wd_583, wd_584, ⟨by decide +kernel, by decide +kernel, np_W_mint⟩, ⟨by decide, by decide⟩⟩
theorem ao_mint : armOk 204 4 83 86 := by
  unfold armOk ldOk tl
  decide +kernel
theorem wd_1054 : Cond.methodLink "CapKernelLaw" 86 y_M_mint ∈ xT := xT_at 1054 (by decide +kernel) (by decide +kernel)
theorem wd_1055 : Cond.instanceMethod y_M_mint ∈ xT := xT_at 1055 (by decide +kernel) (by decide +kernel)
theorem wd_1056 : Cond.selects "CapKernelModel" y_M_mint y_M_mint ∈ xT := xT_at 1056 (by decide +kernel) (by decide +kernel)
theorem mg_m_mint (z : xzs) (l : Launch) (hl : l.stackTraces = false) : mGood z l y_M_mint 4 86 (f_M_mint z) := ⟨prog_8_method_26_code, 5, 3, 67, ct_M_mint z l hl, wd_1057, wd_68, wd_1054, wd_1055, wd_1056, ⟨by decide +kernel, by decide +kernel, np_M_mint⟩, ⟨by decide, by decide⟩⟩
theorem wd_593 : Cond.methodLink "CapKernelLaw" 87 y_W_move ∈ xT := xT_at 593 (by decide +kernel) (by decide +kernel)
theorem wd_594 : Cond.static y_W_move ∈ xT := xT_at 594 (by decide +kernel) (by decide +kernel)
theorem np_W_move : (parseMethodDescriptor y_W_move.desc).map (fun d => d.parameters.length) = some 4 := by decide +kernel
theorem cg_move (z : xzs) (l : Launch) (hl : l.stackTraces = false) (xs : Nat → Int32) (i : Int32) : cGood z l y_W_move (2 + 2) 87 (f_K_move z) (lAs xs i 2) := ⟨method_5_code, 5, 12 + 1, 8 + (6 + 11) + 464, 10, ph_W_move, wg_W_move z l hl (lV xs i 1) (lV xs i 2), wd_595, wd_54, wd_593, wd_594, ⟨by decide +kernel, by decide +kernel, np_W_move⟩, ⟨by decide, by decide⟩⟩
theorem ao_move : armOk 296 2 87 90 := by
  unfold armOk ldOk tl
  decide +kernel
theorem wd_1062 : Cond.methodLink "CapKernelLaw" 90 y_M_move ∈ xT := xT_at 1062 (by decide +kernel) (by decide +kernel)
theorem wd_1063 : Cond.instanceMethod y_M_move ∈ xT := xT_at 1063 (by decide +kernel) (by decide +kernel)
theorem wd_1064 : Cond.selects "CapKernelModel" y_M_move y_M_move ∈ xT := xT_at 1064 (by decide +kernel) (by decide +kernel)
theorem mg_m_move (z : xzs) (l : Launch) (hl : l.stackTraces = false) : mGood z l y_M_move 2 90 (f_M_move z) := ⟨prog_8_method_27_code, 4, 3, 67, ct_M_move z l hl, wd_1065, wd_68, wd_1062, wd_1063, wd_1064, ⟨by decide +kernel, by decide +kernel, np_M_move⟩, ⟨by decide, by decide⟩⟩
theorem wd_604 : Cond.methodLink "CapKernelLaw" 91 y_W_delete ∈ xT := xT_at 604 (by decide +kernel) (by decide +kernel)
theorem wd_605 : Cond.static y_W_delete ∈ xT := xT_at 605 (by decide +kernel) (by decide +kernel)
theorem np_W_delete : (parseMethodDescriptor y_W_delete.desc).map (fun d => d.parameters.length) = some 3 := by decide +kernel
theorem cg_delete (z : xzs) (l : Launch) (hl : l.stackTraces = false) (xs : Nat → Int32) (i : Int32) : cGood z l y_W_delete (1 + 2) 91 (f_K_delete z) (lAs xs i 1) := ⟨method_6_code, 4, 141 + 1, 8 + (3 + 11) + 12023, 9, ph_W_delete, wg_W_delete z l hl (lV xs i 1), wd_606, wd_54, wd_604, wd_605, ⟨by decide +kernel, by decide +kernel, np_W_delete⟩, ⟨by decide, by decide⟩⟩
theorem ao_delete : armOk 364 1 91 94 := by
  unfold armOk ldOk tl
  decide +kernel
theorem wd_1070 : Cond.methodLink "CapKernelLaw" 94 y_M_delete ∈ xT := xT_at 1070 (by decide +kernel) (by decide +kernel)
theorem wd_1071 : Cond.instanceMethod y_M_delete ∈ xT := xT_at 1071 (by decide +kernel) (by decide +kernel)
theorem wd_1072 : Cond.selects "CapKernelModel" y_M_delete y_M_delete ∈ xT := xT_at 1072 (by decide +kernel) (by decide +kernel)
theorem mg_m_delete (z : xzs) (l : Launch) (hl : l.stackTraces = false) : mGood z l y_M_delete 1 94 (f_M_delete z) := ⟨prog_8_method_28_code, 2, 3, 73, ct_M_delete z l hl, wd_1073, wd_68, wd_1070, wd_1071, wd_1072, ⟨by decide +kernel, by decide +kernel, np_M_delete⟩, ⟨by decide, by decide⟩⟩
theorem wd_658 : Cond.methodLink "CapKernelLaw" 95 y_W_revoke ∈ xT := xT_at 658 (by decide +kernel) (by decide +kernel)
theorem wd_659 : Cond.static y_W_revoke ∈ xT := xT_at 659 (by decide +kernel) (by decide +kernel)
theorem np_W_revoke : (parseMethodDescriptor y_W_revoke.desc).map (fun d => d.parameters.length) = some 3 := by decide +kernel
theorem cg_revoke (z : xzs) (l : Launch) (hl : l.stackTraces = false) (xs : Nat → Int32) (i : Int32) : cGood z l y_W_revoke (1 + 2) 95 (f_K_revoke z) (lAs xs i 1) := ⟨method_7_code, 4, 142 + 1, 8 + (6 + 11) + 12047, 9, ph_W_revoke, wg_W_revoke z l hl (lV xs i 1), wd_660, wd_54, wd_658, wd_659, ⟨by decide +kernel, by decide +kernel, np_W_revoke⟩, ⟨by decide, by decide⟩⟩
theorem ao_revoke : armOk 420 1 95 97 := by
  unfold armOk ldOk tl
  decide +kernel
theorem wd_1094 : Cond.methodLink "CapKernelLaw" 97 y_M_revoke ∈ xT := xT_at 1094 (by decide +kernel) (by decide +kernel)
theorem wd_1095 : Cond.instanceMethod y_M_revoke ∈ xT := xT_at 1095 (by decide +kernel) (by decide +kernel)
theorem wd_1096 : Cond.selects "CapKernelModel" y_M_revoke y_M_revoke ∈ xT := xT_at 1096 (by decide +kernel) (by decide +kernel)
theorem mg_m_revoke (z : xzs) (l : Launch) (hl : l.stackTraces = false) : mGood z l y_M_revoke 1 97 (f_M_revoke z) := ⟨prog_8_method_29_code, 8, 3, 73, ct_M_revoke z l hl, wd_1097, wd_68, wd_1094, wd_1095, wd_1096, ⟨by decide +kernel, by decide +kernel, np_M_revoke⟩, ⟨by decide, by decide⟩⟩
theorem wd_677 : Cond.methodLink "CapKernelLaw" 98 y_W_retype ∈ xT := xT_at 677 (by decide +kernel) (by decide +kernel)
theorem wd_678 : Cond.static y_W_retype ∈ xT := xT_at 678 (by decide +kernel) (by decide +kernel)
theorem np_W_retype : (parseMethodDescriptor y_W_retype.desc).map (fun d => d.parameters.length) = some 5 := by decide +kernel
theorem cg_retype (z : xzs) (l : Launch) (hl : l.stackTraces = false) (xs : Nat → Int32) (i : Int32) : cGood z l y_W_retype (3 + 2) 98 (f_K_retype z) (lAs xs i 3) := ⟨method_8_code, 6, 12 + 1, 8 + (10 + 11) + 464, 12, ph_W_retype, wg_W_retype z l hl (lV xs i 1) (lV xs i 2) (lV xs i 3), wd_679, wd_54, wd_677, wd_678, ⟨by decide +kernel, by decide +kernel, np_W_retype⟩, ⟨by decide, by decide⟩⟩
theorem ao_retype : armOk 476 3 98 100 := by
  unfold armOk ldOk tl
  decide +kernel
theorem wd_1106 : Cond.methodLink "CapKernelLaw" 100 y_M_retype ∈ xT := xT_at 1106 (by decide +kernel) (by decide +kernel)
theorem wd_1107 : Cond.instanceMethod y_M_retype ∈ xT := xT_at 1107 (by decide +kernel) (by decide +kernel)
theorem wd_1108 : Cond.selects "CapKernelModel" y_M_retype y_M_retype ∈ xT := xT_at 1108 (by decide +kernel) (by decide +kernel)
theorem mg_m_retype (z : xzs) (l : Launch) (hl : l.stackTraces = false) : mGood z l y_M_retype 3 100 (f_M_retype z) := ⟨prog_8_method_30_code, 7, 3, 67, ct_M_retype z l hl, wd_1109, wd_68, wd_1106, wd_1107, wd_1108, ⟨by decide +kernel, by decide +kernel, np_M_retype⟩, ⟨by decide, by decide⟩⟩
theorem wd_706 : Cond.methodLink "CapKernelLaw" 101 y_W_send ∈ xT := xT_at 706 (by decide +kernel) (by decide +kernel)
theorem wd_707 : Cond.static y_W_send ∈ xT := xT_at 707 (by decide +kernel) (by decide +kernel)
theorem np_W_send : (parseMethodDescriptor y_W_send.desc).map (fun d => d.parameters.length) = some 5 := by decide +kernel
theorem cg_send (z : xzs) (l : Launch) (hl : l.stackTraces = false) (xs : Nat → Int32) (i : Int32) : cGood z l y_W_send (3 + 2) 101 (f_K_send z) (lAs xs i 3) := ⟨method_9_code, 6, 13 + 1, 8 + (8 + 11) + 464, 12, ph_W_send, wg_W_send z l hl (lV xs i 1) (lV xs i 2) (lV xs i 3), wd_708, wd_54, wd_706, wd_707, ⟨by decide +kernel, by decide +kernel, np_W_send⟩, ⟨by decide, by decide⟩⟩
theorem ao_send : armOk 556 3 101 103 := by
  unfold armOk ldOk tl
  decide +kernel
theorem wd_1114 : Cond.methodLink "CapKernelLaw" 103 y_M_send ∈ xT := xT_at 1114 (by decide +kernel) (by decide +kernel)
theorem wd_1115 : Cond.instanceMethod y_M_send ∈ xT := xT_at 1115 (by decide +kernel) (by decide +kernel)
theorem wd_1116 : Cond.selects "CapKernelModel" y_M_send y_M_send ∈ xT := xT_at 1116 (by decide +kernel) (by decide +kernel)
theorem mg_m_send (z : xzs) (l : Launch) (hl : l.stackTraces = false) : mGood z l y_M_send 3 103 (f_M_send z) := ⟨prog_8_method_32_code, 7, 3, 67, ct_M_send z l hl, wd_1117, wd_68, wd_1114, wd_1115, wd_1116, ⟨by decide +kernel, by decide +kernel, np_M_send⟩, ⟨by decide, by decide⟩⟩
theorem wd_737 : Cond.methodLink "CapKernelLaw" 104 y_W_call ∈ xT := xT_at 737 (by decide +kernel) (by decide +kernel)
theorem wd_738 : Cond.static y_W_call ∈ xT := xT_at 738 (by decide +kernel) (by decide +kernel)
theorem np_W_call : (parseMethodDescriptor y_W_call.desc).map (fun d => d.parameters.length) = some 4 := by decide +kernel
theorem cg_call (z : xzs) (l : Launch) (hl : l.stackTraces = false) (xs : Nat → Int32) (i : Int32) : cGood z l y_W_call (2 + 2) 104 (f_K_call z) (lAs xs i 2) := ⟨method_10_code, 5, 13 + 1, 8 + (6 + 11) + 464, 10, ph_W_call, wg_W_call z l hl (lV xs i 1) (lV xs i 2), wd_739, wd_54, wd_737, wd_738, ⟨by decide +kernel, by decide +kernel, np_W_call⟩, ⟨by decide, by decide⟩⟩
theorem ao_call : armOk 636 2 104 106 := by
  unfold armOk ldOk tl
  decide +kernel
theorem wd_1134 : Cond.methodLink "CapKernelLaw" 106 y_M_call ∈ xT := xT_at 1134 (by decide +kernel) (by decide +kernel)
theorem wd_1135 : Cond.instanceMethod y_M_call ∈ xT := xT_at 1135 (by decide +kernel) (by decide +kernel)
theorem wd_1136 : Cond.selects "CapKernelModel" y_M_call y_M_call ∈ xT := xT_at 1136 (by decide +kernel) (by decide +kernel)
theorem mg_m_call (z : xzs) (l : Launch) (hl : l.stackTraces = false) : mGood z l y_M_call 2 106 (f_M_call z) := ⟨prog_8_method_34_code, 5, 3, 67, ct_M_call z l hl, wd_1137, wd_68, wd_1134, wd_1135, wd_1136, ⟨by decide +kernel, by decide +kernel, np_M_call⟩, ⟨by decide, by decide⟩⟩
theorem wd_796 : Cond.methodLink "CapKernelLaw" 107 y_W_receive ∈ xT := xT_at 796 (by decide +kernel) (by decide +kernel)
theorem wd_797 : Cond.static y_W_receive ∈ xT := xT_at 797 (by decide +kernel) (by decide +kernel)
theorem np_W_receive : (parseMethodDescriptor y_W_receive.desc).map (fun d => d.parameters.length) = some 4 := by decide +kernel
theorem cg_receive (z : xzs) (l : Launch) (hl : l.stackTraces = false) (xs : Nat → Int32) (i : Int32) : cGood z l y_W_receive (2 + 2) 107 (f_K_receive z) (lAs xs i 2) := ⟨method_11_code, 5, 13 + 1, 8 + (7 + 11) + 464, 10, ph_W_receive, wg_W_receive z l hl (lV xs i 1) (lV xs i 2), wd_798, wd_54, wd_796, wd_797, ⟨by decide +kernel, by decide +kernel, np_W_receive⟩, ⟨by decide, by decide⟩⟩
theorem ao_receive : armOk 704 2 107 109 := by
  unfold armOk ldOk tl
  decide +kernel
theorem wd_1154 : Cond.methodLink "CapKernelLaw" 109 y_M_receive ∈ xT := xT_at 1154 (by decide +kernel) (by decide +kernel)
theorem wd_1155 : Cond.instanceMethod y_M_receive ∈ xT := xT_at 1155 (by decide +kernel) (by decide +kernel)
theorem wd_1156 : Cond.selects "CapKernelModel" y_M_receive y_M_receive ∈ xT := xT_at 1156 (by decide +kernel) (by decide +kernel)
theorem mg_m_receive (z : xzs) (l : Launch) (hl : l.stackTraces = false) : mGood z l y_M_receive 2 109 (f_M_receive z) := ⟨prog_8_method_36_code, 4, 3, 67, ct_M_receive z l hl, wd_1157, wd_68, wd_1154, wd_1155, wd_1156, ⟨by decide +kernel, by decide +kernel, np_M_receive⟩, ⟨by decide, by decide⟩⟩
theorem wd_807 : Cond.methodLink "CapKernelLaw" 110 y_W_answer ∈ xT := xT_at 807 (by decide +kernel) (by decide +kernel)
theorem wd_808 : Cond.static y_W_answer ∈ xT := xT_at 808 (by decide +kernel) (by decide +kernel)
theorem np_W_answer : (parseMethodDescriptor y_W_answer.desc).map (fun d => d.parameters.length) = some 3 := by decide +kernel
theorem cg_answer (z : xzs) (l : Launch) (hl : l.stackTraces = false) (xs : Nat → Int32) (i : Int32) : cGood z l y_W_answer (1 + 2) 110 (f_K_answer z) (lAs xs i 1) := ⟨method_12_code, 4, 11 + 1, 8 + (4 + 11) + 441, 9, ph_W_answer, wg_W_answer z l hl (lV xs i 1), wd_809, wd_54, wd_807, wd_808, ⟨by decide +kernel, by decide +kernel, np_W_answer⟩, ⟨by decide, by decide⟩⟩
theorem ao_answer : armOk 772 1 110 112 := by
  unfold armOk ldOk tl
  decide +kernel
theorem wd_1158 : Cond.methodLink "CapKernelLaw" 112 y_M_answer ∈ xT := xT_at 1158 (by decide +kernel) (by decide +kernel)
theorem wd_1159 : Cond.instanceMethod y_M_answer ∈ xT := xT_at 1159 (by decide +kernel) (by decide +kernel)
theorem wd_1160 : Cond.selects "CapKernelModel" y_M_answer y_M_answer ∈ xT := xT_at 1160 (by decide +kernel) (by decide +kernel)
theorem mg_m_answer (z : xzs) (l : Launch) (hl : l.stackTraces = false) : mGood z l y_M_answer 1 112 (f_M_answer z) := ⟨prog_8_method_37_code, 3, 2, 44, ct_M_answer z l hl, wd_1161, wd_68, wd_1158, wd_1159, wd_1160, ⟨by decide +kernel, by decide +kernel, np_M_answer⟩, ⟨by decide, by decide⟩⟩
theorem wd_814 : Cond.methodLink "CapKernelLaw" 113 y_W_signal ∈ xT := xT_at 814 (by decide +kernel) (by decide +kernel)
theorem wd_815 : Cond.static y_W_signal ∈ xT := xT_at 815 (by decide +kernel) (by decide +kernel)
theorem np_W_signal : (parseMethodDescriptor y_W_signal.desc).map (fun d => d.parameters.length) = some 3 := by decide +kernel
theorem cg_signal (z : xzs) (l : Launch) (hl : l.stackTraces = false) (xs : Nat → Int32) (i : Int32) : cGood z l y_W_signal (1 + 2) 113 (f_K_signal z) (lAs xs i 1) := ⟨method_13_code, 4, 12 + 1, 8 + (6 + 11) + 464, 9, ph_W_signal, wg_W_signal z l hl (lV xs i 1), wd_816, wd_54, wd_814, wd_815, ⟨by decide +kernel, by decide +kernel, np_W_signal⟩, ⟨by decide, by decide⟩⟩
theorem ao_signal : armOk 828 1 113 115 := by
  unfold armOk ldOk tl
  decide +kernel
theorem wd_1162 : Cond.methodLink "CapKernelLaw" 115 y_M_signal ∈ xT := xT_at 1162 (by decide +kernel) (by decide +kernel)
theorem wd_1163 : Cond.instanceMethod y_M_signal ∈ xT := xT_at 1163 (by decide +kernel) (by decide +kernel)
theorem wd_1164 : Cond.selects "CapKernelModel" y_M_signal y_M_signal ∈ xT := xT_at 1164 (by decide +kernel) (by decide +kernel)
theorem mg_m_signal (z : xzs) (l : Launch) (hl : l.stackTraces = false) : mGood z l y_M_signal 1 115 (f_M_signal z) := ⟨prog_8_method_38_code, 6, 3, 67, ct_M_signal z l hl, wd_1165, wd_68, wd_1162, wd_1163, wd_1164, ⟨by decide +kernel, by decide +kernel, np_M_signal⟩, ⟨by decide, by decide⟩⟩
theorem wd_828 : Cond.methodLink "CapKernelLaw" 116 y_W_await ∈ xT := xT_at 828 (by decide +kernel) (by decide +kernel)
theorem wd_829 : Cond.static y_W_await ∈ xT := xT_at 829 (by decide +kernel) (by decide +kernel)
theorem np_W_await : (parseMethodDescriptor y_W_await.desc).map (fun d => d.parameters.length) = some 3 := by decide +kernel
theorem cg_await (z : xzs) (l : Launch) (hl : l.stackTraces = false) (xs : Nat → Int32) (i : Int32) : cGood z l y_W_await (1 + 2) 116 (f_K_await z) (lAs xs i 1) := ⟨method_14_code, 4, 12 + 1, 8 + (5 + 11) + 464, 9, ph_W_await, wg_W_await z l hl (lV xs i 1), wd_830, wd_54, wd_828, wd_829, ⟨by decide +kernel, by decide +kernel, np_W_await⟩, ⟨by decide, by decide⟩⟩
theorem ao_await : armOk 884 1 116 118 := by
  unfold armOk ldOk tl
  decide +kernel
theorem wd_1166 : Cond.methodLink "CapKernelLaw" 118 y_M_await ∈ xT := xT_at 1166 (by decide +kernel) (by decide +kernel)
theorem wd_1167 : Cond.instanceMethod y_M_await ∈ xT := xT_at 1167 (by decide +kernel) (by decide +kernel)
theorem wd_1168 : Cond.selects "CapKernelModel" y_M_await y_M_await ∈ xT := xT_at 1168 (by decide +kernel) (by decide +kernel)
theorem mg_m_await (z : xzs) (l : Launch) (hl : l.stackTraces = false) : mGood z l y_M_await 1 118 (f_M_await z) := ⟨prog_8_method_39_code, 3, 3, 67, ct_M_await z l hl, wd_1169, wd_68, wd_1166, wd_1167, wd_1168, ⟨by decide +kernel, by decide +kernel, np_M_await⟩, ⟨by decide, by decide⟩⟩
theorem wd_835 : Cond.methodLink "CapKernelLaw" 119 y_W_pass ∈ xT := xT_at 835 (by decide +kernel) (by decide +kernel)
theorem wd_836 : Cond.static y_W_pass ∈ xT := xT_at 836 (by decide +kernel) (by decide +kernel)
theorem np_W_pass : (parseMethodDescriptor y_W_pass.desc).map (fun d => d.parameters.length) = some 2 := by decide +kernel
theorem cg_pass (z : xzs) (l : Launch) (hl : l.stackTraces = false) (xs : Nat → Int32) (i : Int32) : cGood z l y_W_pass (0 + 2) 119 (f_K_pass z) (lAs xs i 0) := ⟨method_15_code, 3, 11 + 1, 8 + (2 + 11) + 441, 8, ph_W_pass, wg_W_pass z l hl , wd_837, wd_54, wd_835, wd_836, ⟨by decide +kernel, by decide +kernel, np_W_pass⟩, ⟨by decide, by decide⟩⟩
theorem ao_pass : armOk 940 0 119 122 := by
  unfold armOk ldOk tl
  decide +kernel
theorem wd_1170 : Cond.methodLink "CapKernelLaw" 122 y_M_pass ∈ xT := xT_at 1170 (by decide +kernel) (by decide +kernel)
theorem wd_1171 : Cond.instanceMethod y_M_pass ∈ xT := xT_at 1171 (by decide +kernel) (by decide +kernel)
theorem wd_1172 : Cond.selects "CapKernelModel" y_M_pass y_M_pass ∈ xT := xT_at 1172 (by decide +kernel) (by decide +kernel)
theorem mg_m_pass (z : xzs) (l : Launch) (hl : l.stackTraces = false) : mGood z l y_M_pass 0 122 (f_M_pass z) := ⟨prog_8_method_40_code, 1, 2, 44, ct_M_pass z l hl, wd_1173, wd_68, wd_1170, wd_1171, wd_1172, ⟨by decide +kernel, by decide +kernel, np_M_pass⟩, ⟨by decide, by decide⟩⟩
theorem wd_843 : Cond.methodLink "CapKernelLaw" 123 y_W_priority ∈ xT := xT_at 843 (by decide +kernel) (by decide +kernel)
theorem wd_844 : Cond.static y_W_priority ∈ xT := xT_at 844 (by decide +kernel) (by decide +kernel)
theorem np_W_priority : (parseMethodDescriptor y_W_priority.desc).map (fun d => d.parameters.length) = some 4 := by decide +kernel
theorem cg_priority (z : xzs) (l : Launch) (hl : l.stackTraces = false) (xs : Nat → Int32) (i : Int32) : cGood z l y_W_priority (2 + 2) 123 (f_K_priority z) (lAs xs i 2) := ⟨method_16_code, 5, 11 + 1, 8 + (5 + 11) + 440, 10, ph_W_priority, wg_W_priority z l hl (lV xs i 1) (lV xs i 2), wd_845, wd_54, wd_843, wd_844, ⟨by decide +kernel, by decide +kernel, np_W_priority⟩, ⟨by decide, by decide⟩⟩
theorem ao_priority : armOk 984 2 123 125 := by
  unfold armOk ldOk tl
  decide +kernel
theorem wd_1174 : Cond.methodLink "CapKernelLaw" 125 y_M_priority ∈ xT := xT_at 1174 (by decide +kernel) (by decide +kernel)
theorem wd_1175 : Cond.instanceMethod y_M_priority ∈ xT := xT_at 1175 (by decide +kernel) (by decide +kernel)
theorem wd_1176 : Cond.selects "CapKernelModel" y_M_priority y_M_priority ∈ xT := xT_at 1176 (by decide +kernel) (by decide +kernel)
theorem mg_m_priority (z : xzs) (l : Launch) (hl : l.stackTraces = false) : mGood z l y_M_priority 2 125 (f_M_priority z) := ⟨prog_8_method_44_code, 4, 1, 22, ct_M_priority z l hl, wd_1177, wd_68, wd_1174, wd_1175, wd_1176, ⟨by decide +kernel, by decide +kernel, np_M_priority⟩, ⟨by decide, by decide⟩⟩
theorem wd_414 : Cond.methodLink "CapKernelLaw" 126 y_K_current ∈ xT := xT_at 414 (by decide +kernel) (by decide +kernel)
theorem mg_k_current (z : xzs) (l : Launch) (hl : l.stackTraces = false) : mGood z l y_K_current 0 126 (f_K_current z) := ⟨prog_1_method_16_code, 2, 2, 44, ct_K_current z l hl, wd_417, wd_55, wd_414, wd_415, wd_416, ⟨by decide +kernel, by decide +kernel, np_K_current⟩, ⟨by decide, by decide⟩⟩
theorem wd_1178 : Cond.methodLink "CapKernelLaw" 129 y_M_current ∈ xT := xT_at 1178 (by decide +kernel) (by decide +kernel)
theorem wd_1179 : Cond.instanceMethod y_M_current ∈ xT := xT_at 1179 (by decide +kernel) (by decide +kernel)
theorem wd_1180 : Cond.selects "CapKernelModel" y_M_current y_M_current ∈ xT := xT_at 1180 (by decide +kernel) (by decide +kernel)
theorem mg_m_current (z : xzs) (l : Launch) (hl : l.stackTraces = false) : mGood z l y_M_current 0 129 (f_M_current z) := ⟨prog_8_method_45_code, 1, 1, 23, ct_M_current z l hl, wd_1181, wd_68, wd_1178, wd_1179, wd_1180, ⟨by decide +kernel, by decide +kernel, np_M_current⟩, ⟨by decide, by decide⟩⟩
theorem wd_853 : Cond.methodLink "CapKernelLaw" 130 y_W_thread ∈ xT := xT_at 853 (by decide +kernel) (by decide +kernel)
theorem wd_854 : Cond.static y_W_thread ∈ xT := xT_at 854 (by decide +kernel) (by decide +kernel)
theorem np_W_thread : (parseMethodDescriptor y_W_thread.desc).map (fun d => d.parameters.length) = some 4 := by decide +kernel
theorem cg_thread (z : xzs) (l : Launch) (hl : l.stackTraces = false) (xs : Nat → Int32) (i : Int32) : cGood z l y_W_thread (2 + 2) 130 (f_K_thread z) (lAs xs i 2) := ⟨method_17_code, 5, 11 + 1, 8 + (4 + 11) + 440, 10, ph_W_thread, wg_W_thread z l hl (lV xs i 1) (lV xs i 2), wd_855, wd_54, wd_853, wd_854, ⟨by decide +kernel, by decide +kernel, np_W_thread⟩, ⟨by decide, by decide⟩⟩
theorem ao_thread : armOk 1065 2 130 132 := by
  unfold armOk ldOk tl
  decide +kernel
theorem wd_1182 : Cond.methodLink "CapKernelLaw" 132 y_M_thread ∈ xT := xT_at 1182 (by decide +kernel) (by decide +kernel)
theorem wd_1183 : Cond.instanceMethod y_M_thread ∈ xT := xT_at 1183 (by decide +kernel) (by decide +kernel)
theorem wd_1184 : Cond.selects "CapKernelModel" y_M_thread y_M_thread ∈ xT := xT_at 1184 (by decide +kernel) (by decide +kernel)
theorem mg_m_thread (z : xzs) (l : Launch) (hl : l.stackTraces = false) : mGood z l y_M_thread 2 132 (f_M_thread z) := ⟨prog_8_method_46_code, 3, 1, 22, ct_M_thread z l hl, wd_1185, wd_68, wd_1182, wd_1183, wd_1184, ⟨by decide +kernel, by decide +kernel, np_M_thread⟩, ⟨by decide, by decide⟩⟩
theorem wd_860 : Cond.methodLink "CapKernelLaw" 133 y_W_look ∈ xT := xT_at 860 (by decide +kernel) (by decide +kernel)
theorem wd_861 : Cond.static y_W_look ∈ xT := xT_at 861 (by decide +kernel) (by decide +kernel)
theorem np_W_look : (parseMethodDescriptor y_W_look.desc).map (fun d => d.parameters.length) = some 5 := by decide +kernel
theorem cg_look (z : xzs) (l : Launch) (hl : l.stackTraces = false) (xs : Nat → Int32) (i : Int32) : cGood z l y_W_look (3 + 2) 133 (f_K_look z) (lAs xs i 3) := ⟨method_18_code, 6, 12 + 1, 8 + (5 + 11) + 464, 12, ph_W_look, wg_W_look z l hl (lV xs i 1) (lV xs i 2) (lV xs i 3), wd_862, wd_54, wd_860, wd_861, ⟨by decide +kernel, by decide +kernel, np_W_look⟩, ⟨by decide, by decide⟩⟩
theorem ao_look : armOk 1133 3 133 135 := by
  unfold armOk ldOk tl
  decide +kernel
theorem wd_1186 : Cond.methodLink "CapKernelLaw" 135 y_M_look ∈ xT := xT_at 1186 (by decide +kernel) (by decide +kernel)
theorem wd_1187 : Cond.instanceMethod y_M_look ∈ xT := xT_at 1187 (by decide +kernel) (by decide +kernel)
theorem wd_1188 : Cond.selects "CapKernelModel" y_M_look y_M_look ∈ xT := xT_at 1188 (by decide +kernel) (by decide +kernel)
theorem mg_m_look (z : xzs) (l : Launch) (hl : l.stackTraces = false) : mGood z l y_M_look 3 135 (f_M_look z) := ⟨prog_8_method_47_code, 8, 2, 46, ct_M_look z l hl, wd_1189, wd_68, wd_1186, wd_1187, wd_1188, ⟨by decide +kernel, by decide +kernel, np_M_look⟩, ⟨by decide, by decide⟩⟩
theorem wd_426 : Cond.methodLink "CapKernelLaw" 136 y_K_count ∈ xT := xT_at 426 (by decide +kernel) (by decide +kernel)
theorem wd_427 : Cond.instanceMethod y_K_count ∈ xT := xT_at 427 (by decide +kernel) (by decide +kernel)
theorem wd_428 : Cond.selects "CapKernel" y_K_count y_K_count ∈ xT := xT_at 428 (by decide +kernel) (by decide +kernel)
theorem mg_k_count (z : xzs) (l : Launch) (hl : l.stackTraces = false) : mGood z l y_K_count 1 136 (f_K_count z) := ⟨prog_1_method_19_code, 2, 1, 22, ct_K_count z l hl, wd_429, wd_55, wd_426, wd_427, wd_428, ⟨by decide +kernel, by decide +kernel, np_K_count⟩, ⟨by decide, by decide⟩⟩
theorem wd_1190 : Cond.methodLink "CapKernelLaw" 139 y_M_count ∈ xT := xT_at 1190 (by decide +kernel) (by decide +kernel)
theorem wd_1191 : Cond.instanceMethod y_M_count ∈ xT := xT_at 1191 (by decide +kernel) (by decide +kernel)
theorem wd_1192 : Cond.selects "CapKernelModel" y_M_count y_M_count ∈ xT := xT_at 1192 (by decide +kernel) (by decide +kernel)
theorem mg_m_count (z : xzs) (l : Launch) (hl : l.stackTraces = false) : mGood z l y_M_count 1 139 (f_M_count z) := ⟨prog_8_method_48_code, 6, 1, 22, ct_M_count z l hl, wd_1193, wd_68, wd_1190, wd_1191, wd_1192, ⟨by decide +kernel, by decide +kernel, np_M_count⟩, ⟨by decide, by decide⟩⟩
