theorem nw_RL_7 : qv_nw RL 7 9 [some none, some none, none, some none, some none, some none, some none, some none, some none, some none, some none, some none, some none, some none] := ⟨RX9, TX9, 14, tyX9, by decide, rfl, rfl, gl_X9, tyX9_ok, qv_gin 82 (by decide +kernel) (by decide +kernel), qv_gin 83 (by decide +kernel) (by decide +kernel), qv_gin 69 (by decide +kernel) (by decide +kernel), by decide +kernel, by decide +kernel⟩
theorem nw_RL_10 : qv_nw RL 10 10 [some none, some none, some none, some none, some none, some none, some none, some none, some none, none, some none, some none, some none, some none, none, some none, some none, some none, none, some none, some none, some none, none, some none, none, none, none, none, some none] := ⟨RX10, TX10, 29, tyX10, by decide, rfl, rfl, gl_X10, tyX10_ok, qv_gin 854 (by decide +kernel) (by decide +kernel), qv_gin 855 (by decide +kernel) (by decide +kernel), qv_gin 79 (by decide +kernel) (by decide +kernel), by decide +kernel, by decide +kernel⟩
theorem lk_RL_9 : Cond.methodLink RL 9 yX9_init ∈ qv_gt := qv_gin 84 (by decide +kernel) (by decide +kernel)
theorem lk_RL_12 : Cond.methodLink RL 12 yX10_init ∈ qv_gt := qv_gin 856 (by decide +kernel) (by decide +kernel)
theorem mw_X9_init : qv_mw yX9_init cX9_init 1 none := ⟨qv_gin 86 (by decide +kernel) (by decide +kernel), qv_gin 69 (by decide +kernel) (by decide +kernel), by decide +kernel, by decide +kernel⟩
theorem mw_X10_init : qv_mw yX10_init cX10_init 2 none := ⟨qv_gin 858 (by decide +kernel) (by decide +kernel), qv_gin 79 (by decide +kernel) (by decide +kernel), by decide +kernel, by decide +kernel⟩
theorem im_X9_init : Cond.instanceMethod yX9_init ∈ qv_gt := qv_gin 85 (by decide +kernel) (by decide +kernel)
theorem im_X10_init : Cond.instanceMethod yX10_init ∈ qv_gt := qv_gin 857 (by decide +kernel) (by decide +kernel)
theorem pd_X9_init : (parseMethodDescriptor yX9_init.desc).map (fun d => d.parameters.length) = some 0 := by decide +kernel
theorem pd_X10_init : (parseMethodDescriptor yX10_init.desc).map (fun d => d.parameters.length) = some 0 := by decide +kernel
theorem it_X0 : Cond.instantiable RX0 3 ∈ qv_gt := qv_gin 91 (by decide +kernel) (by decide +kernel)
theorem it_X1 : Cond.instantiable RX1 6 ∈ qv_gt := qv_gin 266 (by decide +kernel) (by decide +kernel)
theorem it_X2 : Cond.instantiable RX2 10 ∈ qv_gt := qv_gin 227 (by decide +kernel) (by decide +kernel)
theorem it_X3 : Cond.instantiable RX3 4 ∈ qv_gt := qv_gin 162 (by decide +kernel) (by decide +kernel)
theorem it_X4 : Cond.instantiable RX4 3 ∈ qv_gt := qv_gin 297 (by decide +kernel) (by decide +kernel)
theorem it_X5 : Cond.instantiable RX5 7 ∈ qv_gt := qv_gin 199 (by decide +kernel) (by decide +kernel)
theorem it_X6 : Cond.instantiable RX6 2 ∈ qv_gt := qv_gin 131 (by decide +kernel) (by decide +kernel)
theorem it_X7 : Cond.instantiable RX7 2 ∈ qv_gt := qv_gin 100 (by decide +kernel) (by decide +kernel)
theorem it_X8 : Cond.instantiable RX8 2 ∈ qv_gt := qv_gin 184 (by decide +kernel) (by decide +kernel)
theorem it_X9 : Cond.instantiable RX9 14 ∈ qv_gt := qv_gin 83 (by decide +kernel) (by decide +kernel)
theorem it_X10 : Cond.instantiable RX10 29 ∈ qv_gt := qv_gin 855 (by decide +kernel) (by decide +kernel)
theorem ls_PG : Cond.laysStatic "RootGates$Cliffords" "PLAIN_GATES" "[I" ∈ lw_tbl := List.mem_of_getElem? (i := 537) (by decide +kernel)
theorem in_X2 : Cond.initialized "RootGates$Cliffords" ∈ lw_tbl := List.mem_of_getElem? (i := 76) (by decide +kernel)
theorem ao_0 : Cond.arrayOver (.object RX7) ∈ lw_tbl := List.mem_of_getElem? (i := 97) (by decide +kernel)
theorem ao_1 : Cond.arrayOver (.object RX6) ∈ lw_tbl := List.mem_of_getElem? (i := 99) (by decide +kernel)
theorem nst_in : ∀ w ∈ qv_nst, w ∈ lw_tbl := by
  intro w hw
  have h : qv_nst = ([132, 168, 185, 200, 228, 267, 298, 305, 317, 644, 765, 776, 786] : List Nat).filterMap (fun i => lw_tbl[i]?) := by decide +kernel
  rw [h] at hw
  obtain ⟨i, -, hi⟩ := List.mem_filterMap.mp hw
  exact List.mem_of_getElem? hi
