theorem lk_RX7_3 : Cond.methodLink RX7 3 objectInit ∈ qv_gt := qv_gin 104 (by decide +kernel) (by decide +kernel)
theorem im_obj : Cond.instanceMethod objectInit ∈ qv_gt := qv_gin 88 (by decide +kernel) (by decide +kernel)
theorem cd_obj : Cond.code objectInit ⟨#[0xb1]⟩ 1 none ∈ qv_gt := qv_gin 89 (by decide +kernel) (by decide +kernel)
theorem ac_long : Cond.arrayClass .long ∈ qv_gt := qv_gin 130 (by decide +kernel) (by decide +kernel)
theorem pw_RX7_11 : qv_pw RX7 11 7 0 true (tyX7 0) := ⟨RX7, TX7, 2, tyX7, rfl, by decide, gl_X7, qv_gin 116 (by decide +kernel) (by decide +kernel), rfl, tyX7_ok, nmX7, rfl, tyX7_ok 0 (by decide)⟩
theorem lk_RX7_19 : Cond.methodLink RX7 19 yX7_makeUnit ∈ qv_gt := qv_gin 105 (by decide +kernel) (by decide +kernel)
theorem lk_RX6_3 : Cond.methodLink RX6 3 objectInit ∈ qv_gt := qv_gin 135 (by decide +kernel) (by decide +kernel)
theorem ac_int : Cond.arrayClass .int ∈ qv_gt := qv_gin 129 (by decide +kernel) (by decide +kernel)
theorem pw_RX6_9 : qv_pw RX6 9 6 0 true (tyX6 0) := ⟨RX6, TX6, 2, tyX6, rfl, by decide, gl_X6, qv_gin 136 (by decide +kernel) (by decide +kernel), rfl, tyX6_ok, nmX6, rfl, tyX6_ok 0 (by decide)⟩
theorem lk_RX0_3 : Cond.methodLink RX0 3 objectInit ∈ qv_gt := qv_gin 95 (by decide +kernel) (by decide +kernel)
theorem ck_RX0_9 : Cond.classLink RX0 9 RX7 ∈ qv_gt := qv_gin 96 (by decide +kernel) (by decide +kernel)
theorem pw_RX0_11 : qv_pw RX0 11 0 0 true (tyX0 0) := ⟨RX0, TX0, 3, tyX0, rfl, by decide, gl_X0, qv_gin 148 (by decide +kernel) (by decide +kernel), rfl, tyX0_ok, nmX0, rfl, tyX0_ok 0 (by decide)⟩
theorem ck_RX0_17 : Cond.classLink RX0 17 RX6 ∈ qv_gt := qv_gin 98 (by decide +kernel) (by decide +kernel)
theorem pw_RX0_19 : qv_pw RX0 19 0 1 true (tyX0 1) := ⟨RX0, TX0, 3, tyX0, rfl, by decide, gl_X0, qv_gin 150 (by decide +kernel) (by decide +kernel), rfl, tyX0_ok, nmX0, rfl, tyX0_ok 1 (by decide)⟩
theorem pw_RX0_23 : qv_pw RX0 23 0 2 true (tyX0 2) := ⟨RX0, TX0, 3, tyX0, rfl, by decide, gl_X0, qv_gin 152 (by decide +kernel) (by decide +kernel), rfl, tyX0_ok, nmX0, rfl, tyX0_ok 2 (by decide)⟩
theorem nw_RX0_9 : qv_nw RX0 9 7 [some none, none] := ⟨RX7, TX7, 2, tyX7, by decide, rfl, rfl, gl_X7, tyX7_ok, qv_gin 96 (by decide +kernel) (by decide +kernel), qv_gin 100 (by decide +kernel) (by decide +kernel), qv_gin 71 (by decide +kernel) (by decide +kernel), by decide +kernel, by decide +kernel⟩
theorem mw_X7_init : qv_mw yX7_init cX7_init 1 none := ⟨qv_gin 103 (by decide +kernel) (by decide +kernel), qv_gin 71 (by decide +kernel) (by decide +kernel), by decide +kernel, by decide +kernel⟩
theorem lk_RX0_27 : Cond.methodLink RX0 27 yX7_init ∈ qv_gt := qv_gin 101 (by decide +kernel) (by decide +kernel)
theorem im_X7_init : Cond.instanceMethod yX7_init ∈ qv_gt := qv_gin 102 (by decide +kernel) (by decide +kernel)
theorem pd_X7_init : (parseMethodDescriptor yX7_init.desc).map (fun d => d.parameters.length) = some 0 := by decide +kernel
theorem nw_RX0_17 : qv_nw RX0 17 6 [some none, none] := ⟨RX6, TX6, 2, tyX6, by decide, rfl, rfl, gl_X6, tyX6_ok, qv_gin 98 (by decide +kernel) (by decide +kernel), qv_gin 131 (by decide +kernel) (by decide +kernel), qv_gin 72 (by decide +kernel) (by decide +kernel), by decide +kernel, by decide +kernel⟩
theorem mw_X6_init : qv_mw yX6_init cX6_init 1 none := ⟨qv_gin 134 (by decide +kernel) (by decide +kernel), qv_gin 72 (by decide +kernel) (by decide +kernel), by decide +kernel, by decide +kernel⟩
theorem ln_RX0_28 : Cond.methodLinkNest RX0 28 yX6_init "RootGates" ∈ qv_nst := List.mem_of_getElem? (i := 0) (by decide +kernel)
theorem im_X6_init : Cond.instanceMethod yX6_init ∈ qv_gt := qv_gin 133 (by decide +kernel) (by decide +kernel)
theorem pd_X6_init : (parseMethodDescriptor yX6_init.desc).map (fun d => d.parameters.length) = some 0 := by decide +kernel
theorem lk_RX3_3 : Cond.methodLink RX3 3 objectInit ∈ qv_gt := qv_gin 166 (by decide +kernel) (by decide +kernel)
theorem ck_RX3_9 : Cond.classLink RX3 9 RX6 ∈ qv_gt := qv_gin 167 (by decide +kernel) (by decide +kernel)
theorem pw_RX3_11 : qv_pw RX3 11 3 0 true (tyX3 0) := ⟨RX3, TX3, 4, tyX3, rfl, by decide, gl_X3, qv_gin 169 (by decide +kernel) (by decide +kernel), rfl, tyX3_ok, nmX3, rfl, tyX3_ok 0 (by decide)⟩
theorem pw_RX3_17 : qv_pw RX3 17 3 1 true (tyX3 1) := ⟨RX3, TX3, 4, tyX3, rfl, by decide, gl_X3, qv_gin 170 (by decide +kernel) (by decide +kernel), rfl, tyX3_ok, nmX3, rfl, tyX3_ok 1 (by decide)⟩
theorem nw_RX3_9 : qv_nw RX3 9 6 [some none, none] := ⟨RX6, TX6, 2, tyX6, by decide, rfl, rfl, gl_X6, tyX6_ok, qv_gin 167 (by decide +kernel) (by decide +kernel), qv_gin 131 (by decide +kernel) (by decide +kernel), qv_gin 72 (by decide +kernel) (by decide +kernel), by decide +kernel, by decide +kernel⟩
theorem ln_RX3_28 : Cond.methodLinkNest RX3 28 yX6_init "RootGates" ∈ qv_nst := List.mem_of_getElem? (i := 1) (by decide +kernel)
theorem lk_RX8_3 : Cond.methodLink RX8 3 objectInit ∈ qv_gt := qv_gin 188 (by decide +kernel) (by decide +kernel)
theorem pw_RX8_9 : qv_pw RX8 9 8 0 true (tyX8 0) := ⟨RX8, TX8, 2, tyX8, rfl, by decide, gl_X8, qv_gin 189 (by decide +kernel) (by decide +kernel), rfl, tyX8_ok, nmX8, rfl, tyX8_ok 0 (by decide)⟩
theorem lk_RX5_3 : Cond.methodLink RX5 3 objectInit ∈ qv_gt := qv_gin 203 (by decide +kernel) (by decide +kernel)
theorem pw_RX5_9 : qv_pw RX5 9 5 0 true (tyX5 0) := ⟨RX5, TX5, 7, tyX5, rfl, by decide, gl_X5, qv_gin 204 (by decide +kernel) (by decide +kernel), rfl, tyX5_ok, nmX5, rfl, tyX5_ok 0 (by decide)⟩
theorem pw_RX5_15 : qv_pw RX5 15 5 1 true (tyX5 1) := ⟨RX5, TX5, 7, tyX5, rfl, by decide, gl_X5, qv_gin 205 (by decide +kernel) (by decide +kernel), rfl, tyX5_ok, nmX5, rfl, tyX5_ok 1 (by decide)⟩
theorem pw_RX5_18 : qv_pw RX5 18 5 2 true (tyX5 2) := ⟨RX5, TX5, 7, tyX5, rfl, by decide, gl_X5, qv_gin 206 (by decide +kernel) (by decide +kernel), rfl, tyX5_ok, nmX5, rfl, tyX5_ok 2 (by decide)⟩
theorem pw_RX5_21 : qv_pw RX5 21 5 3 true (tyX5 3) := ⟨RX5, TX5, 7, tyX5, rfl, by decide, gl_X5, qv_gin 207 (by decide +kernel) (by decide +kernel), rfl, tyX5_ok, nmX5, rfl, tyX5_ok 3 (by decide)⟩
theorem lk_RX2_3 : Cond.methodLink RX2 3 objectInit ∈ qv_gt := qv_gin 231 (by decide +kernel) (by decide +kernel)
theorem pw_RX2_9 : qv_pw RX2 9 2 0 true (tyX2 0) := ⟨RX2, TX2, 10, tyX2, rfl, by decide, gl_X2, qv_gin 234 (by decide +kernel) (by decide +kernel), rfl, tyX2_ok, nmX2, rfl, tyX2_ok 0 (by decide)⟩
theorem pw_RX2_15 : qv_pw RX2 15 2 1 true (tyX2 1) := ⟨RX2, TX2, 10, tyX2, rfl, by decide, gl_X2, qv_gin 235 (by decide +kernel) (by decide +kernel), rfl, tyX2_ok, nmX2, rfl, tyX2_ok 1 (by decide)⟩
theorem pw_RX2_18 : qv_pw RX2 18 2 2 true (tyX2 2) := ⟨RX2, TX2, 10, tyX2, rfl, by decide, gl_X2, qv_gin 236 (by decide +kernel) (by decide +kernel), rfl, tyX2_ok, nmX2, rfl, tyX2_ok 2 (by decide)⟩
theorem pw_RX2_21 : qv_pw RX2 21 2 3 true (tyX2 3) := ⟨RX2, TX2, 10, tyX2, rfl, by decide, gl_X2, qv_gin 237 (by decide +kernel) (by decide +kernel), rfl, tyX2_ok, nmX2, rfl, tyX2_ok 3 (by decide)⟩
theorem pw_RX2_24 : qv_pw RX2 24 2 4 true (tyX2 4) := ⟨RX2, TX2, 10, tyX2, rfl, by decide, gl_X2, qv_gin 238 (by decide +kernel) (by decide +kernel), rfl, tyX2_ok, nmX2, rfl, tyX2_ok 4 (by decide)⟩
theorem pw_RX2_27 : qv_pw RX2 27 2 5 true (tyX2 5) := ⟨RX2, TX2, 10, tyX2, rfl, by decide, gl_X2, qv_gin 239 (by decide +kernel) (by decide +kernel), rfl, tyX2_ok, nmX2, rfl, tyX2_ok 5 (by decide)⟩
theorem pw_RX2_30 : qv_pw RX2 30 2 6 true (tyX2 6) := ⟨RX2, TX2, 10, tyX2, rfl, by decide, gl_X2, qv_gin 240 (by decide +kernel) (by decide +kernel), rfl, tyX2_ok, nmX2, rfl, tyX2_ok 6 (by decide)⟩
theorem nw_RX2_33 : qv_nw RX2 33 7 [some none, none] := ⟨RX7, TX7, 2, tyX7, by decide, rfl, rfl, gl_X7, tyX7_ok, qv_gin 232 (by decide +kernel) (by decide +kernel), qv_gin 100 (by decide +kernel) (by decide +kernel), qv_gin 71 (by decide +kernel) (by decide +kernel), by decide +kernel, by decide +kernel⟩
theorem lk_RX2_35 : Cond.methodLink RX2 35 yX7_init ∈ qv_gt := qv_gin 233 (by decide +kernel) (by decide +kernel)
theorem pw_RX2_36 : qv_pw RX2 36 2 7 true (tyX2 7) := ⟨RX2, TX2, 10, tyX2, rfl, by decide, gl_X2, qv_gin 241 (by decide +kernel) (by decide +kernel), rfl, tyX2_ok, nmX2, rfl, tyX2_ok 7 (by decide)⟩
theorem lk_RX1_3 : Cond.methodLink RX1 3 objectInit ∈ qv_gt := qv_gin 270 (by decide +kernel) (by decide +kernel)
theorem pw_RX1_11 : qv_pw RX1 11 1 0 true (tyX1 0) := ⟨RX1, TX1, 6, tyX1, rfl, by decide, gl_X1, qv_gin 273 (by decide +kernel) (by decide +kernel), rfl, tyX1_ok, nmX1, rfl, tyX1_ok 0 (by decide)⟩
theorem pw_RX1_15 : qv_pw RX1 15 1 1 true (tyX1 1) := ⟨RX1, TX1, 6, tyX1, rfl, by decide, gl_X1, qv_gin 275 (by decide +kernel) (by decide +kernel), rfl, tyX1_ok, nmX1, rfl, tyX1_ok 1 (by decide)⟩
theorem nw_RX1_22 : qv_nw RX1 22 7 [some none, none] := ⟨RX7, TX7, 2, tyX7, by decide, rfl, rfl, gl_X7, tyX7_ok, qv_gin 271 (by decide +kernel) (by decide +kernel), qv_gin 100 (by decide +kernel) (by decide +kernel), qv_gin 71 (by decide +kernel) (by decide +kernel), by decide +kernel, by decide +kernel⟩
theorem lk_RX1_24 : Cond.methodLink RX1 24 yX7_init ∈ qv_gt := qv_gin 272 (by decide +kernel) (by decide +kernel)
theorem pw_RX1_25 : qv_pw RX1 25 1 3 true (tyX1 3) := ⟨RX1, TX1, 6, tyX1, rfl, by decide, gl_X1, qv_gin 280 (by decide +kernel) (by decide +kernel), rfl, tyX1_ok, nmX1, rfl, tyX1_ok 3 (by decide)⟩
theorem pw_RX1_29 : qv_pw RX1 29 1 4 true (tyX1 4) := ⟨RX1, TX1, 6, tyX1, rfl, by decide, gl_X1, qv_gin 281 (by decide +kernel) (by decide +kernel), rfl, tyX1_ok, nmX1, rfl, tyX1_ok 4 (by decide)⟩
theorem pw_RX1_32 : qv_pw RX1 32 1 5 true (tyX1 5) := ⟨RX1, TX1, 6, tyX1, rfl, by decide, gl_X1, qv_gin 282 (by decide +kernel) (by decide +kernel), rfl, tyX1_ok, nmX1, rfl, tyX1_ok 5 (by decide)⟩
theorem lk_RX4_3 : Cond.methodLink RX4 3 objectInit ∈ qv_gt := qv_gin 301 (by decide +kernel) (by decide +kernel)
theorem nw_RX4_9 : qv_nw RX4 9 7 [some none, none] := ⟨RX7, TX7, 2, tyX7, by decide, rfl, rfl, gl_X7, tyX7_ok, qv_gin 302 (by decide +kernel) (by decide +kernel), qv_gin 100 (by decide +kernel) (by decide +kernel), qv_gin 71 (by decide +kernel) (by decide +kernel), by decide +kernel, by decide +kernel⟩
theorem lk_RX4_11 : Cond.methodLink RX4 11 yX7_init ∈ qv_gt := qv_gin 303 (by decide +kernel) (by decide +kernel)
theorem pw_RX4_12 : qv_pw RX4 12 4 0 true (tyX4 0) := ⟨RX4, TX4, 3, tyX4, rfl, by decide, gl_X4, qv_gin 306 (by decide +kernel) (by decide +kernel), rfl, tyX4_ok, nmX4, rfl, tyX4_ok 0 (by decide)⟩
theorem pw_RX4_18 : qv_pw RX4 18 4 1 true (tyX4 1) := ⟨RX4, TX4, 3, tyX4, rfl, by decide, gl_X4, qv_gin 307 (by decide +kernel) (by decide +kernel), rfl, tyX4_ok, nmX4, rfl, tyX4_ok 1 (by decide)⟩
theorem nw_RX4_21 : qv_nw RX4 21 1 [some none, some none, none, some none, some none, some none] := ⟨RX1, TX1, 6, tyX1, by decide, rfl, rfl, gl_X1, tyX1_ok, qv_gin 304 (by decide +kernel) (by decide +kernel), qv_gin 266 (by decide +kernel) (by decide +kernel), qv_gin 77 (by decide +kernel) (by decide +kernel), by decide +kernel, by decide +kernel⟩
theorem mw_X1_init : qv_mw yX1_init cX1_init 1 none := ⟨qv_gin 269 (by decide +kernel) (by decide +kernel), qv_gin 77 (by decide +kernel) (by decide +kernel), by decide +kernel, by decide +kernel⟩
theorem ln_RX4_23 : Cond.methodLinkNest RX4 23 yX1_init "RootGates" ∈ qv_nst := List.mem_of_getElem? (i := 7) (by decide +kernel)
theorem im_X1_init : Cond.instanceMethod yX1_init ∈ qv_gt := qv_gin 268 (by decide +kernel) (by decide +kernel)
theorem pd_X1_init : (parseMethodDescriptor yX1_init.desc).map (fun d => d.parameters.length) = some 0 := by decide +kernel
theorem pw_RX4_24 : qv_pw RX4 24 4 2 true (tyX4 2) := ⟨RX4, TX4, 3, tyX4, rfl, by decide, gl_X4, qv_gin 308 (by decide +kernel) (by decide +kernel), rfl, tyX4_ok, nmX4, rfl, tyX4_ok 2 (by decide)⟩
theorem lk_RX9_3 : Cond.methodLink RX9 3 objectInit ∈ qv_gt := qv_gin 87 (by decide +kernel) (by decide +kernel)
theorem nw_RX9_9 : qv_nw RX9 9 0 [some none, some none, some none] := ⟨RX0, TX0, 3, tyX0, by decide, rfl, rfl, gl_X0, tyX0_ok, qv_gin 90 (by decide +kernel) (by decide +kernel), qv_gin 91 (by decide +kernel) (by decide +kernel), qv_gin 70 (by decide +kernel) (by decide +kernel), by decide +kernel, by decide +kernel⟩
theorem mw_X0_init : qv_mw yX0_init cX0_init 2 none := ⟨qv_gin 94 (by decide +kernel) (by decide +kernel), qv_gin 70 (by decide +kernel) (by decide +kernel), by decide +kernel, by decide +kernel⟩
theorem lk_RX9_11 : Cond.methodLink RX9 11 yX0_init ∈ qv_gt := qv_gin 92 (by decide +kernel) (by decide +kernel)
theorem im_X0_init : Cond.instanceMethod yX0_init ∈ qv_gt := qv_gin 93 (by decide +kernel) (by decide +kernel)
theorem pd_X0_init : (parseMethodDescriptor yX0_init.desc).map (fun d => d.parameters.length) = some 0 := by decide +kernel
theorem pw_RX9_12 : qv_pw RX9 12 9 0 true (tyX9 0) := ⟨RX9, TX9, 14, tyX9, rfl, by decide, gl_X9, qv_gin 320 (by decide +kernel) (by decide +kernel), rfl, tyX9_ok, nmX9, rfl, tyX9_ok 0 (by decide)⟩
theorem pw_RX9_18 : qv_pw RX9 18 9 1 true (tyX9 1) := ⟨RX9, TX9, 14, tyX9, rfl, by decide, gl_X9, qv_gin 321 (by decide +kernel) (by decide +kernel), rfl, tyX9_ok, nmX9, rfl, tyX9_ok 1 (by decide)⟩
theorem nw_RX9_25 : qv_nw RX9 25 3 [some none, some none, none, none] := ⟨RX3, TX3, 4, tyX3, by decide, rfl, rfl, gl_X3, tyX3_ok, qv_gin 161 (by decide +kernel) (by decide +kernel), qv_gin 162 (by decide +kernel) (by decide +kernel), qv_gin 73 (by decide +kernel) (by decide +kernel), by decide +kernel, by decide +kernel⟩
theorem mw_X3_init : qv_mw yX3_init cX3_init 2 none := ⟨qv_gin 165 (by decide +kernel) (by decide +kernel), qv_gin 73 (by decide +kernel) (by decide +kernel), by decide +kernel, by decide +kernel⟩
theorem lk_RX9_27 : Cond.methodLink RX9 27 yX3_init ∈ qv_gt := qv_gin 163 (by decide +kernel) (by decide +kernel)
theorem im_X3_init : Cond.instanceMethod yX3_init ∈ qv_gt := qv_gin 164 (by decide +kernel) (by decide +kernel)
theorem pd_X3_init : (parseMethodDescriptor yX3_init.desc).map (fun d => d.parameters.length) = some 0 := by decide +kernel
theorem pw_RX9_28 : qv_pw RX9 28 9 3 true (tyX9 3) := ⟨RX9, TX9, 14, tyX9, rfl, by decide, gl_X9, qv_gin 323 (by decide +kernel) (by decide +kernel), rfl, tyX9_ok, nmX9, rfl, tyX9_ok 3 (by decide)⟩
theorem nw_RX9_32 : qv_nw RX9 32 8 [some none, none] := ⟨RX8, TX8, 2, tyX8, by decide, rfl, rfl, gl_X8, tyX8_ok, qv_gin 183 (by decide +kernel) (by decide +kernel), qv_gin 184 (by decide +kernel) (by decide +kernel), qv_gin 74 (by decide +kernel) (by decide +kernel), by decide +kernel, by decide +kernel⟩
theorem mw_X8_init : qv_mw yX8_init cX8_init 1 none := ⟨qv_gin 187 (by decide +kernel) (by decide +kernel), qv_gin 74 (by decide +kernel) (by decide +kernel), by decide +kernel, by decide +kernel⟩
theorem ln_RX9_34 : Cond.methodLinkNest RX9 34 yX8_init "RootGates" ∈ qv_nst := List.mem_of_getElem? (i := 2) (by decide +kernel)
theorem im_X8_init : Cond.instanceMethod yX8_init ∈ qv_gt := qv_gin 186 (by decide +kernel) (by decide +kernel)
theorem pd_X8_init : (parseMethodDescriptor yX8_init.desc).map (fun d => d.parameters.length) = some 0 := by decide +kernel
theorem pw_RX9_35 : qv_pw RX9 35 9 4 true (tyX9 4) := ⟨RX9, TX9, 14, tyX9, rfl, by decide, gl_X9, qv_gin 324 (by decide +kernel) (by decide +kernel), rfl, tyX9_ok, nmX9, rfl, tyX9_ok 4 (by decide)⟩
theorem nw_RX9_39 : qv_nw RX9 39 5 [some none, some none, some none, some none, none, none, none] := ⟨RX5, TX5, 7, tyX5, by decide, rfl, rfl, gl_X5, tyX5_ok, qv_gin 198 (by decide +kernel) (by decide +kernel), qv_gin 199 (by decide +kernel) (by decide +kernel), qv_gin 75 (by decide +kernel) (by decide +kernel), by decide +kernel, by decide +kernel⟩
theorem mw_X5_init : qv_mw yX5_init cX5_init 1 none := ⟨qv_gin 202 (by decide +kernel) (by decide +kernel), qv_gin 75 (by decide +kernel) (by decide +kernel), by decide +kernel, by decide +kernel⟩
theorem ln_RX9_41 : Cond.methodLinkNest RX9 41 yX5_init "RootGates" ∈ qv_nst := List.mem_of_getElem? (i := 3) (by decide +kernel)
theorem im_X5_init : Cond.instanceMethod yX5_init ∈ qv_gt := qv_gin 201 (by decide +kernel) (by decide +kernel)
theorem pd_X5_init : (parseMethodDescriptor yX5_init.desc).map (fun d => d.parameters.length) = some 0 := by decide +kernel
theorem pw_RX9_42 : qv_pw RX9 42 9 5 true (tyX9 5) := ⟨RX9, TX9, 14, tyX9, rfl, by decide, gl_X9, qv_gin 325 (by decide +kernel) (by decide +kernel), rfl, tyX9_ok, nmX9, rfl, tyX9_ok 5 (by decide)⟩
theorem nw_RX9_46 : qv_nw RX9 46 2 [some none, some none, some none, some none, some none, some none, some none, some none, none, none] := ⟨RX2, TX2, 10, tyX2, by decide, rfl, rfl, gl_X2, tyX2_ok, qv_gin 226 (by decide +kernel) (by decide +kernel), qv_gin 227 (by decide +kernel) (by decide +kernel), qv_gin 76 (by decide +kernel) (by decide +kernel), by decide +kernel, by decide +kernel⟩
theorem mw_X2_init : qv_mw yX2_init cX2_init 1 none := ⟨qv_gin 230 (by decide +kernel) (by decide +kernel), qv_gin 76 (by decide +kernel) (by decide +kernel), by decide +kernel, by decide +kernel⟩
theorem ln_RX9_48 : Cond.methodLinkNest RX9 48 yX2_init "RootGates" ∈ qv_nst := List.mem_of_getElem? (i := 4) (by decide +kernel)
theorem im_X2_init : Cond.instanceMethod yX2_init ∈ qv_gt := qv_gin 229 (by decide +kernel) (by decide +kernel)
theorem pd_X2_init : (parseMethodDescriptor yX2_init.desc).map (fun d => d.parameters.length) = some 0 := by decide +kernel
theorem pw_RX9_49 : qv_pw RX9 49 9 6 true (tyX9 6) := ⟨RX9, TX9, 14, tyX9, rfl, by decide, gl_X9, qv_gin 326 (by decide +kernel) (by decide +kernel), rfl, tyX9_ok, nmX9, rfl, tyX9_ok 6 (by decide)⟩
theorem nw_RX9_53 : qv_nw RX9 53 1 [some none, some none, none, some none, some none, some none] := ⟨RX1, TX1, 6, tyX1, by decide, rfl, rfl, gl_X1, tyX1_ok, qv_gin 265 (by decide +kernel) (by decide +kernel), qv_gin 266 (by decide +kernel) (by decide +kernel), qv_gin 77 (by decide +kernel) (by decide +kernel), by decide +kernel, by decide +kernel⟩
theorem ln_RX9_55 : Cond.methodLinkNest RX9 55 yX1_init "RootGates" ∈ qv_nst := List.mem_of_getElem? (i := 5) (by decide +kernel)
theorem pw_RX9_56 : qv_pw RX9 56 9 7 true (tyX9 7) := ⟨RX9, TX9, 14, tyX9, rfl, by decide, gl_X9, qv_gin 327 (by decide +kernel) (by decide +kernel), rfl, tyX9_ok, nmX9, rfl, tyX9_ok 7 (by decide)⟩
theorem nw_RX9_60 : qv_nw RX9 60 4 [some none, some none, some none] := ⟨RX4, TX4, 3, tyX4, by decide, rfl, rfl, gl_X4, tyX4_ok, qv_gin 296 (by decide +kernel) (by decide +kernel), qv_gin 297 (by decide +kernel) (by decide +kernel), qv_gin 78 (by decide +kernel) (by decide +kernel), by decide +kernel, by decide +kernel⟩
theorem mw_X4_init : qv_mw yX4_init cX4_init 1 none := ⟨qv_gin 300 (by decide +kernel) (by decide +kernel), qv_gin 78 (by decide +kernel) (by decide +kernel), by decide +kernel, by decide +kernel⟩
theorem ln_RX9_62 : Cond.methodLinkNest RX9 62 yX4_init "RootGates" ∈ qv_nst := List.mem_of_getElem? (i := 6) (by decide +kernel)
theorem im_X4_init : Cond.instanceMethod yX4_init ∈ qv_gt := qv_gin 299 (by decide +kernel) (by decide +kernel)
theorem pd_X4_init : (parseMethodDescriptor yX4_init.desc).map (fun d => d.parameters.length) = some 0 := by decide +kernel
theorem pw_RX9_63 : qv_pw RX9 63 9 8 true (tyX9 8) := ⟨RX9, TX9, 14, tyX9, rfl, by decide, gl_X9, qv_gin 328 (by decide +kernel) (by decide +kernel), rfl, tyX9_ok, nmX9, rfl, tyX9_ok 8 (by decide)⟩
theorem nw_RX9_67 : qv_nw RX9 67 6 [some none, none] := ⟨RX6, TX6, 2, tyX6, by decide, rfl, rfl, gl_X6, tyX6_ok, qv_gin 316 (by decide +kernel) (by decide +kernel), qv_gin 131 (by decide +kernel) (by decide +kernel), qv_gin 72 (by decide +kernel) (by decide +kernel), by decide +kernel, by decide +kernel⟩
theorem ln_RX9_69 : Cond.methodLinkNest RX9 69 yX6_init "RootGates" ∈ qv_nst := List.mem_of_getElem? (i := 8) (by decide +kernel)
theorem pw_RX9_70 : qv_pw RX9 70 9 9 true (tyX9 9) := ⟨RX9, TX9, 14, tyX9, rfl, by decide, gl_X9, qv_gin 329 (by decide +kernel) (by decide +kernel), rfl, tyX9_ok, nmX9, rfl, tyX9_ok 9 (by decide)⟩
theorem nw_RX9_74 : qv_nw RX9 74 7 [some none, none] := ⟨RX7, TX7, 2, tyX7, by decide, rfl, rfl, gl_X7, tyX7_ok, qv_gin 318 (by decide +kernel) (by decide +kernel), qv_gin 100 (by decide +kernel) (by decide +kernel), qv_gin 71 (by decide +kernel) (by decide +kernel), by decide +kernel, by decide +kernel⟩
theorem lk_RX9_76 : Cond.methodLink RX9 76 yX7_init ∈ qv_gt := qv_gin 319 (by decide +kernel) (by decide +kernel)
theorem pw_RX9_77 : qv_pw RX9 77 9 10 true (tyX9 10) := ⟨RX9, TX9, 14, tyX9, rfl, by decide, gl_X9, qv_gin 330 (by decide +kernel) (by decide +kernel), rfl, tyX9_ok, nmX9, rfl, tyX9_ok 10 (by decide)⟩
theorem pw_RX9_81 : qv_pw RX9 81 9 11 true (tyX9 11) := ⟨RX9, TX9, 14, tyX9, rfl, by decide, gl_X9, qv_gin 331 (by decide +kernel) (by decide +kernel), rfl, tyX9_ok, nmX9, rfl, tyX9_ok 11 (by decide)⟩
theorem pw_RX9_84 : qv_pw RX9 84 9 12 true (tyX9 12) := ⟨RX9, TX9, 14, tyX9, rfl, by decide, gl_X9, qv_gin 332 (by decide +kernel) (by decide +kernel), rfl, tyX9_ok, nmX9, rfl, tyX9_ok 12 (by decide)⟩
theorem pw_RX9_87 : qv_pw RX9 87 9 13 true (tyX9 13) := ⟨RX9, TX9, 14, tyX9, rfl, by decide, gl_X9, qv_gin 333 (by decide +kernel) (by decide +kernel), rfl, tyX9_ok, nmX9, rfl, tyX9_ok 13 (by decide)⟩
theorem lk_RX10_5 : Cond.methodLink RX10 5 objectInit ∈ qv_gt := qv_gin 859 (by decide +kernel) (by decide +kernel)
theorem pw_RX10_11 : qv_pw RX10 11 10 0 true (tyX10 0) := ⟨RX10, TX10, 29, tyX10, rfl, by decide, gl_X10, qv_gin 925 (by decide +kernel) (by decide +kernel), rfl, tyX10_ok, nmX10, rfl, tyX10_ok 0 (by decide)⟩
theorem pw_RX10_15 : qv_pw RX10 15 10 1 true (tyX10 1) := ⟨RX10, TX10, 29, tyX10, rfl, by decide, gl_X10, qv_gin 926 (by decide +kernel) (by decide +kernel), rfl, tyX10_ok, nmX10, rfl, tyX10_ok 1 (by decide)⟩
theorem pw_RX10_18 : qv_pw RX10 18 10 2 true (tyX10 2) := ⟨RX10, TX10, 29, tyX10, rfl, by decide, gl_X10, qv_gin 927 (by decide +kernel) (by decide +kernel), rfl, tyX10_ok, nmX10, rfl, tyX10_ok 2 (by decide)⟩
theorem pw_RX10_21 : qv_pw RX10 21 10 3 true (tyX10 3) := ⟨RX10, TX10, 29, tyX10, rfl, by decide, gl_X10, qv_gin 928 (by decide +kernel) (by decide +kernel), rfl, tyX10_ok, nmX10, rfl, tyX10_ok 3 (by decide)⟩
theorem pw_RX10_25 : qv_pw RX10 25 10 4 true (tyX10 4) := ⟨RX10, TX10, 29, tyX10, rfl, by decide, gl_X10, qv_gin 929 (by decide +kernel) (by decide +kernel), rfl, tyX10_ok, nmX10, rfl, tyX10_ok 4 (by decide)⟩
theorem pw_RX10_28 : qv_pw RX10 28 10 5 true (tyX10 5) := ⟨RX10, TX10, 29, tyX10, rfl, by decide, gl_X10, qv_gin 930 (by decide +kernel) (by decide +kernel), rfl, tyX10_ok, nmX10, rfl, tyX10_ok 5 (by decide)⟩
theorem pw_RX10_31 : qv_pw RX10 31 10 6 true (tyX10 6) := ⟨RX10, TX10, 29, tyX10, rfl, by decide, gl_X10, qv_gin 931 (by decide +kernel) (by decide +kernel), rfl, tyX10_ok, nmX10, rfl, tyX10_ok 6 (by decide)⟩
theorem pw_RX10_34 : qv_pw RX10 34 10 7 true (tyX10 7) := ⟨RX10, TX10, 29, tyX10, rfl, by decide, gl_X10, qv_gin 932 (by decide +kernel) (by decide +kernel), rfl, tyX10_ok, nmX10, rfl, tyX10_ok 7 (by decide)⟩
theorem pw_RX10_37 : qv_pw RX10 37 10 8 true (tyX10 8) := ⟨RX10, TX10, 29, tyX10, rfl, by decide, gl_X10, qv_gin 933 (by decide +kernel) (by decide +kernel), rfl, tyX10_ok, nmX10, rfl, tyX10_ok 8 (by decide)⟩
theorem pw_RX10_40 : qv_pw RX10 40 10 10 true (tyX10 10) := ⟨RX10, TX10, 29, tyX10, rfl, by decide, gl_X10, qv_gin 935 (by decide +kernel) (by decide +kernel), rfl, tyX10_ok, nmX10, rfl, tyX10_ok 10 (by decide)⟩
theorem pw_RX10_43 : qv_pw RX10 43 10 11 true (tyX10 11) := ⟨RX10, TX10, 29, tyX10, rfl, by decide, gl_X10, qv_gin 936 (by decide +kernel) (by decide +kernel), rfl, tyX10_ok, nmX10, rfl, tyX10_ok 11 (by decide)⟩
theorem pw_RX10_46 : qv_pw RX10 46 10 12 true (tyX10 12) := ⟨RX10, TX10, 29, tyX10, rfl, by decide, gl_X10, qv_gin 937 (by decide +kernel) (by decide +kernel), rfl, tyX10_ok, nmX10, rfl, tyX10_ok 12 (by decide)⟩
theorem pw_RX10_49 : qv_pw RX10 49 10 13 true (tyX10 13) := ⟨RX10, TX10, 29, tyX10, rfl, by decide, gl_X10, qv_gin 938 (by decide +kernel) (by decide +kernel), rfl, tyX10_ok, nmX10, rfl, tyX10_ok 13 (by decide)⟩
theorem pw_RX10_52 : qv_pw RX10 52 10 15 true (tyX10 15) := ⟨RX10, TX10, 29, tyX10, rfl, by decide, gl_X10, qv_gin 940 (by decide +kernel) (by decide +kernel), rfl, tyX10_ok, nmX10, rfl, tyX10_ok 15 (by decide)⟩
theorem pw_RX10_55 : qv_pw RX10 55 10 16 true (tyX10 16) := ⟨RX10, TX10, 29, tyX10, rfl, by decide, gl_X10, qv_gin 941 (by decide +kernel) (by decide +kernel), rfl, tyX10_ok, nmX10, rfl, tyX10_ok 16 (by decide)⟩
theorem pw_RX10_58 : qv_pw RX10 58 10 17 true (tyX10 17) := ⟨RX10, TX10, 29, tyX10, rfl, by decide, gl_X10, qv_gin 942 (by decide +kernel) (by decide +kernel), rfl, tyX10_ok, nmX10, rfl, tyX10_ok 17 (by decide)⟩
theorem pw_RX10_61 : qv_pw RX10 61 10 19 true (tyX10 19) := ⟨RX10, TX10, 29, tyX10, rfl, by decide, gl_X10, qv_gin 944 (by decide +kernel) (by decide +kernel), rfl, tyX10_ok, nmX10, rfl, tyX10_ok 19 (by decide)⟩
theorem pw_RX10_64 : qv_pw RX10 64 10 20 true (tyX10 20) := ⟨RX10, TX10, 29, tyX10, rfl, by decide, gl_X10, qv_gin 945 (by decide +kernel) (by decide +kernel), rfl, tyX10_ok, nmX10, rfl, tyX10_ok 20 (by decide)⟩
theorem pw_RX10_67 : qv_pw RX10 67 10 21 true (tyX10 21) := ⟨RX10, TX10, 29, tyX10, rfl, by decide, gl_X10, qv_gin 946 (by decide +kernel) (by decide +kernel), rfl, tyX10_ok, nmX10, rfl, tyX10_ok 21 (by decide)⟩
theorem pw_RX10_70 : qv_pw RX10 70 10 23 true (tyX10 23) := ⟨RX10, TX10, 29, tyX10, rfl, by decide, gl_X10, qv_gin 948 (by decide +kernel) (by decide +kernel), rfl, tyX10_ok, nmX10, rfl, tyX10_ok 23 (by decide)⟩
theorem pw_RX10_73 : qv_pw RX10 73 10 28 true (tyX10 28) := ⟨RX10, TX10, 29, tyX10, rfl, by decide, gl_X10, qv_gin 953 (by decide +kernel) (by decide +kernel), rfl, tyX10_ok, nmX10, rfl, tyX10_ok 28 (by decide)⟩
theorem mw_X10_gates : qv_mw yX10_gates cX10_gates 2 none := ⟨qv_gin 867 (by decide +kernel) (by decide +kernel), qv_gin 79 (by decide +kernel) (by decide +kernel), by decide +kernel, by decide +kernel⟩
theorem lk_RX10_80 : Cond.methodLink RX10 80 yX10_gates ∈ qv_gt := qv_gin 864 (by decide +kernel) (by decide +kernel)
theorem im_X10_gates : Cond.instanceMethod yX10_gates ∈ qv_gt := qv_gin 866 (by decide +kernel) (by decide +kernel)
theorem se_X10_gates : Cond.selects yX10_gates.cls yX10_gates yX10_gates ∈ qv_gt := qv_gin 33 (by decide +kernel) (by decide +kernel)
theorem pd_X10_gates : (parseMethodDescriptor yX10_gates.desc).map (fun d => d.parameters.length) = some 0 := by decide +kernel
theorem mw_X10_walks : qv_mw yX10_walks cX10_walks 3 none := ⟨qv_gin 876 (by decide +kernel) (by decide +kernel), qv_gin 79 (by decide +kernel) (by decide +kernel), by decide +kernel, by decide +kernel⟩
theorem lk_RX10_87 : Cond.methodLink RX10 87 yX10_walks ∈ qv_gt := qv_gin 873 (by decide +kernel) (by decide +kernel)
theorem im_X10_walks : Cond.instanceMethod yX10_walks ∈ qv_gt := qv_gin 875 (by decide +kernel) (by decide +kernel)
theorem se_X10_walks : Cond.selects yX10_walks.cls yX10_walks yX10_walks ∈ qv_gt := qv_gin 35 (by decide +kernel) (by decide +kernel)
theorem pd_X10_walks : (parseMethodDescriptor yX10_walks.desc).map (fun d => d.parameters.length) = some 0 := by decide +kernel
