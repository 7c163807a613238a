theorem qv_all {ws : List Cond} (ps : List Nat) (h : ws = ps.filterMap (fun i => lw_tbl[i]?)) (hg : ws.all goodWord = true) : ∀ w ∈ ws, w ∈ qv_gt := by
  intro w hw
  have h1 := List.all_eq_true.mp hg w hw
  rw [h] at hw
  obtain ⟨i, -, hi⟩ := List.mem_filterMap.mp hw
  exact qv_gin i hi h1
theorem gl_X7 : ∀ w ∈ u_ws RX7 TX7 2, w ∈ qv_gt := qv_all [124, 126] (by decide +kernel) (by decide +kernel)
theorem fw_RX7_11 : qv_fw RX7 11 7 0 := ⟨RX7, TX7, 2, rfl, by decide, gl_X7, qv_gin 116 (by decide +kernel) (by decide +kernel), rfl⟩
theorem mw_X7_clearParts : qv_mw yX7_clearParts cX7_clearParts 2 none := ⟨qv_gin 112 (by decide +kernel) (by decide +kernel), qv_gin 71 (by decide +kernel) (by decide +kernel), by decide +kernel, by decide +kernel⟩
theorem lk_RX7_22 : Cond.methodLink RX7 22 yX7_clearParts ∈ qv_gt := qv_gin 109 (by decide +kernel) (by decide +kernel)
theorem im_X7_clearParts : Cond.instanceMethod yX7_clearParts ∈ qv_gt := qv_gin 111 (by decide +kernel) (by decide +kernel)
theorem se_X7_clearParts : Cond.selects yX7_clearParts.cls yX7_clearParts yX7_clearParts ∈ qv_gt := qv_gin 0 (by decide +kernel) (by decide +kernel)
theorem pd_X7_clearParts : (parseMethodDescriptor yX7_clearParts.desc).map (fun d => d.parameters.length) = some 0 := by decide +kernel
theorem mw_X7_placeOf : qv_mw yX7_placeOf cX7_placeOf 2 (some .int) := ⟨qv_gin 115 (by decide +kernel) (by decide +kernel), qv_gin 71 (by decide +kernel) (by decide +kernel), by decide +kernel, by decide +kernel⟩
theorem lk_RX7_25 : Cond.methodLink RX7 25 yX7_placeOf ∈ qv_gt := qv_gin 113 (by decide +kernel) (by decide +kernel)
theorem st_X7_placeOf : Cond.static yX7_placeOf ∈ qv_gt := qv_gin 114 (by decide +kernel) (by decide +kernel)
theorem pd_X7_placeOf : (parseMethodDescriptor yX7_placeOf.desc).map (fun d => d.parameters.length) = some 2 := by decide +kernel
theorem pw_RX7_15 : qv_pw RX7 15 7 1 false .int := ⟨RX7, TX7, 2, tyX7, rfl, by decide, gl_X7, qv_gin 120 (by decide +kernel) (by decide +kernel), rfl, tyX7_ok, nmX7, rfl, tyX7_ok 1 (by decide)⟩
theorem mw_X9_isBelow : qv_mw yX9_isBelow cX9_isBelow 2 (some .boolean) := ⟨qv_gin 372 (by decide +kernel) (by decide +kernel), qv_gin 69 (by decide +kernel) (by decide +kernel), by decide +kernel, by decide +kernel⟩
theorem lk_RX9_133 : Cond.methodLink RX9 133 yX9_isBelow ∈ qv_gt := qv_gin 370 (by decide +kernel) (by decide +kernel)
theorem st_X9_isBelow : Cond.static yX9_isBelow ∈ qv_gt := qv_gin 371 (by decide +kernel) (by decide +kernel)
theorem pd_X9_isBelow : (parseMethodDescriptor yX9_isBelow.desc).map (fun d => d.parameters.length) = some 2 := by decide +kernel
theorem mw_X9_isRegister : qv_mw yX9_isRegister cX9_isRegister 1 (some .boolean) := ⟨qv_gin 369 (by decide +kernel) (by decide +kernel), qv_gin 69 (by decide +kernel) (by decide +kernel), by decide +kernel, by decide +kernel⟩
theorem lk_RX9_90 : Cond.methodLink RX9 90 yX9_isRegister ∈ qv_gt := qv_gin 367 (by decide +kernel) (by decide +kernel)
theorem st_X9_isRegister : Cond.static yX9_isRegister ∈ qv_gt := qv_gin 368 (by decide +kernel) (by decide +kernel)
theorem pd_X9_isRegister : (parseMethodDescriptor yX9_isRegister.desc).map (fun d => d.parameters.length) = some 1 := by decide +kernel
theorem gl_X9 : ∀ w ∈ u_ws RX9 TX9 14, w ∈ qv_gt := qv_all [334, 336, 338, 340, 342, 344, 346, 348, 350, 352, 354, 356, 358, 360] (by decide +kernel) (by decide +kernel)
theorem fw_RX9_12 : qv_fw RX9 12 9 0 := ⟨RX9, TX9, 14, rfl, by decide, gl_X9, qv_gin 320 (by decide +kernel) (by decide +kernel), rfl⟩
theorem gl_X0 : ∀ w ∈ u_ws RX0 TX0 3, w ∈ qv_gt := qv_all [154, 156, 158] (by decide +kernel) (by decide +kernel)
theorem fw_RX9_94 : qv_fw RX9 94 0 0 := ⟨RX0, TX0, 3, rfl, by decide, gl_X0, qv_gin 149 (by decide +kernel) (by decide +kernel), rfl⟩
theorem fw_RX9_98 : qv_fw RX9 98 7 1 := ⟨RX7, TX7, 2, rfl, by decide, gl_X7, qv_gin 121 (by decide +kernel) (by decide +kernel), rfl⟩
theorem mw_X7_makeUnit : qv_mw yX7_makeUnit cX7_makeUnit 1 none := ⟨qv_gin 108 (by decide +kernel) (by decide +kernel), qv_gin 71 (by decide +kernel) (by decide +kernel), by decide +kernel, by decide +kernel⟩
theorem lk_RX9_102 : Cond.methodLink RX9 102 yX7_makeUnit ∈ qv_gt := qv_gin 373 (by decide +kernel) (by decide +kernel)
theorem im_X7_makeUnit : Cond.instanceMethod yX7_makeUnit ∈ qv_gt := qv_gin 106 (by decide +kernel) (by decide +kernel)
theorem se_X7_makeUnit : Cond.selects yX7_makeUnit.cls yX7_makeUnit yX7_makeUnit ∈ qv_gt := qv_gin 107 (by decide +kernel) (by decide +kernel)
theorem pd_X7_makeUnit : (parseMethodDescriptor yX7_makeUnit.desc).map (fun d => d.parameters.length) = some 0 := by decide +kernel
theorem lk_RX7_29 : Cond.methodLink RX7 29 arraycopyName ∈ qv_gt := qv_gin 385 (by decide +kernel) (by decide +kernel)
theorem nt_copy : Cond.native arraycopyName ∈ qv_gt := qv_gin 387 (by decide +kernel) (by decide +kernel)
theorem st_copy : Cond.static arraycopyName ∈ qv_gt := qv_gin 386 (by decide +kernel) (by decide +kernel)
theorem ini_sys : Cond.initialized "java/lang/System" ∈ qv_gt := qv_gin 80 (by decide +kernel) (by decide +kernel)
theorem fw_RX7_15 : qv_fw RX7 15 7 1 := ⟨RX7, TX7, 2, rfl, by decide, gl_X7, qv_gin 120 (by decide +kernel) (by decide +kernel), rfl⟩
theorem mw_X7_addAndSubtract : qv_mw yX7_addAndSubtract cX7_addAndSubtract 8 none := ⟨qv_gin 399 (by decide +kernel) (by decide +kernel), qv_gin 71 (by decide +kernel) (by decide +kernel), by decide +kernel, by decide +kernel⟩
theorem lk_RX7_67 : Cond.methodLink RX7 67 yX7_addAndSubtract ∈ qv_gt := qv_gin 396 (by decide +kernel) (by decide +kernel)
theorem im_X7_addAndSubtract : Cond.instanceMethod yX7_addAndSubtract ∈ qv_gt := qv_gin 398 (by decide +kernel) (by decide +kernel)
theorem se_X7_addAndSubtract : Cond.selects yX7_addAndSubtract.cls yX7_addAndSubtract yX7_addAndSubtract ∈ qv_gt := qv_gin 2 (by decide +kernel) (by decide +kernel)
theorem pd_X7_addAndSubtract : (parseMethodDescriptor yX7_addAndSubtract.desc).map (fun d => d.parameters.length) = some 2 := by decide +kernel
theorem mw_X7_rotate : qv_mw yX7_rotate cX7_rotate 6 none := ⟨qv_gin 403 (by decide +kernel) (by decide +kernel), qv_gin 71 (by decide +kernel) (by decide +kernel), by decide +kernel, by decide +kernel⟩
theorem lk_RX7_71 : Cond.methodLink RX7 71 yX7_rotate ∈ qv_gt := qv_gin 400 (by decide +kernel) (by decide +kernel)
theorem im_X7_rotate : Cond.instanceMethod yX7_rotate ∈ qv_gt := qv_gin 402 (by decide +kernel) (by decide +kernel)
theorem se_X7_rotate : Cond.selects yX7_rotate.cls yX7_rotate yX7_rotate ∈ qv_gt := qv_gin 3 (by decide +kernel) (by decide +kernel)
theorem pd_X7_rotate : (parseMethodDescriptor yX7_rotate.desc).map (fun d => d.parameters.length) = some 2 := by decide +kernel
theorem mw_X7_exchange : qv_mw yX7_exchange cX7_exchange 6 none := ⟨qv_gin 407 (by decide +kernel) (by decide +kernel), qv_gin 71 (by decide +kernel) (by decide +kernel), by decide +kernel, by decide +kernel⟩
theorem lk_RX7_74 : Cond.methodLink RX7 74 yX7_exchange ∈ qv_gt := qv_gin 404 (by decide +kernel) (by decide +kernel)
theorem im_X7_exchange : Cond.instanceMethod yX7_exchange ∈ qv_gt := qv_gin 406 (by decide +kernel) (by decide +kernel)
theorem se_X7_exchange : Cond.selects yX7_exchange.cls yX7_exchange yX7_exchange ∈ qv_gt := qv_gin 4 (by decide +kernel) (by decide +kernel)
theorem pd_X7_exchange : (parseMethodDescriptor yX7_exchange.desc).map (fun d => d.parameters.length) = some 2 := by decide +kernel
theorem kl_RX7_84 : Cond.constantLong RX7 84 2 ∈ qv_gt := qv_gin 420 (by decide +kernel) (by decide +kernel)
theorem mw_X7_isMultipleOfR : qv_mw yX7_isMultipleOfR cX7_isMultipleOfR 3 (some .boolean) := ⟨qv_gin 415 (by decide +kernel) (by decide +kernel), qv_gin 71 (by decide +kernel) (by decide +kernel), by decide +kernel, by decide +kernel⟩
theorem lk_RX7_77 : Cond.methodLink RX7 77 yX7_isMultipleOfR ∈ qv_gt := qv_gin 412 (by decide +kernel) (by decide +kernel)
theorem im_X7_isMultipleOfR : Cond.instanceMethod yX7_isMultipleOfR ∈ qv_gt := qv_gin 414 (by decide +kernel) (by decide +kernel)
theorem se_X7_isMultipleOfR : Cond.selects yX7_isMultipleOfR.cls yX7_isMultipleOfR yX7_isMultipleOfR ∈ qv_gt := qv_gin 5 (by decide +kernel) (by decide +kernel)
theorem pd_X7_isMultipleOfR : (parseMethodDescriptor yX7_isMultipleOfR.desc).map (fun d => d.parameters.length) = some 0 := by decide +kernel
theorem mw_X7_divideByR : qv_mw yX7_divideByR cX7_divideByR 10 none := ⟨qv_gin 419 (by decide +kernel) (by decide +kernel), qv_gin 71 (by decide +kernel) (by decide +kernel), by decide +kernel, by decide +kernel⟩
theorem lk_RX7_81 : Cond.methodLink RX7 81 yX7_divideByR ∈ qv_gt := qv_gin 416 (by decide +kernel) (by decide +kernel)
theorem im_X7_divideByR : Cond.instanceMethod yX7_divideByR ∈ qv_gt := qv_gin 418 (by decide +kernel) (by decide +kernel)
theorem se_X7_divideByR : Cond.selects yX7_divideByR.cls yX7_divideByR yX7_divideByR ∈ qv_gt := qv_gin 6 (by decide +kernel) (by decide +kernel)
theorem pd_X7_divideByR : (parseMethodDescriptor yX7_divideByR.desc).map (fun d => d.parameters.length) = some 1 := by decide +kernel
theorem mw_X7_applyToPair : qv_mw yX7_applyToPair cX7_applyToPair 4 none := ⟨qv_gin 395 (by decide +kernel) (by decide +kernel), qv_gin 71 (by decide +kernel) (by decide +kernel), by decide +kernel, by decide +kernel⟩
theorem lk_RX7_60 : Cond.methodLink RX7 60 yX7_applyToPair ∈ qv_gt := qv_gin 392 (by decide +kernel) (by decide +kernel)
theorem im_X7_applyToPair : Cond.instanceMethod yX7_applyToPair ∈ qv_gt := qv_gin 394 (by decide +kernel) (by decide +kernel)
theorem se_X7_applyToPair : Cond.selects yX7_applyToPair.cls yX7_applyToPair yX7_applyToPair ∈ qv_gt := qv_gin 1 (by decide +kernel) (by decide +kernel)
theorem pd_X7_applyToPair : (parseMethodDescriptor yX7_applyToPair.desc).map (fun d => d.parameters.length) = some 3 := by decide +kernel
theorem mw_X7_lower : qv_mw yX7_lower cX7_lower 3 none := ⟨qv_gin 411 (by decide +kernel) (by decide +kernel), qv_gin 71 (by decide +kernel) (by decide +kernel), by decide +kernel, by decide +kernel⟩
theorem lk_RX7_64 : Cond.methodLink RX7 64 yX7_lower ∈ qv_gt := qv_gin 408 (by decide +kernel) (by decide +kernel)
theorem im_X7_lower : Cond.instanceMethod yX7_lower ∈ qv_gt := qv_gin 409 (by decide +kernel) (by decide +kernel)
theorem se_X7_lower : Cond.selects yX7_lower.cls yX7_lower yX7_lower ∈ qv_gt := qv_gin 410 (by decide +kernel) (by decide +kernel)
theorem pd_X7_lower : (parseMethodDescriptor yX7_lower.desc).map (fun d => d.parameters.length) = some 0 := by decide +kernel
theorem fw_RX9_77 : qv_fw RX9 77 9 10 := ⟨RX9, TX9, 14, rfl, by decide, gl_X9, qv_gin 330 (by decide +kernel) (by decide +kernel), rfl⟩
theorem mw_X7_makeCopy : qv_mw yX7_makeCopy cX7_makeCopy 2 none := ⟨qv_gin 384 (by decide +kernel) (by decide +kernel), qv_gin 71 (by decide +kernel) (by decide +kernel), by decide +kernel, by decide +kernel⟩
theorem lk_RX9_108 : Cond.methodLink RX9 108 yX7_makeCopy ∈ qv_gt := qv_gin 381 (by decide +kernel) (by decide +kernel)
theorem im_X7_makeCopy : Cond.instanceMethod yX7_makeCopy ∈ qv_gt := qv_gin 382 (by decide +kernel) (by decide +kernel)
theorem se_X7_makeCopy : Cond.selects yX7_makeCopy.cls yX7_makeCopy yX7_makeCopy ∈ qv_gt := qv_gin 383 (by decide +kernel) (by decide +kernel)
theorem pd_X7_makeCopy : (parseMethodDescriptor yX7_makeCopy.desc).map (fun d => d.parameters.length) = some 1 := by decide +kernel
theorem mw_X9_isGate : qv_mw yX9_isGate cX9_isGate 1 (some .boolean) := ⟨qv_gin 380 (by decide +kernel) (by decide +kernel), qv_gin 69 (by decide +kernel) (by decide +kernel), by decide +kernel, by decide +kernel⟩
theorem lk_RX9_105 : Cond.methodLink RX9 105 yX9_isGate ∈ qv_gt := qv_gin 378 (by decide +kernel) (by decide +kernel)
theorem st_X9_isGate : Cond.static yX9_isGate ∈ qv_gt := qv_gin 379 (by decide +kernel) (by decide +kernel)
theorem pd_X9_isGate : (parseMethodDescriptor yX9_isGate.desc).map (fun d => d.parameters.length) = some 1 := by decide +kernel
theorem mw_X7_applyBehind : qv_mw yX7_applyBehind cX7_applyBehind 2 none := ⟨qv_gin 391 (by decide +kernel) (by decide +kernel), qv_gin 71 (by decide +kernel) (by decide +kernel), by decide +kernel, by decide +kernel⟩
theorem lk_RX9_112 : Cond.methodLink RX9 112 yX7_applyBehind ∈ qv_gt := qv_gin 388 (by decide +kernel) (by decide +kernel)
theorem im_X7_applyBehind : Cond.instanceMethod yX7_applyBehind ∈ qv_gt := qv_gin 389 (by decide +kernel) (by decide +kernel)
theorem se_X7_applyBehind : Cond.selects yX7_applyBehind.cls yX7_applyBehind yX7_applyBehind ∈ qv_gt := qv_gin 390 (by decide +kernel) (by decide +kernel)
theorem pd_X7_applyBehind : (parseMethodDescriptor yX7_applyBehind.desc).map (fun d => d.parameters.length) = some 1 := by decide +kernel
theorem mw_X9_settleRegister : qv_mw yX9_settleRegister cX9_settleRegister 2 (some .int) := ⟨qv_gin 424 (by decide +kernel) (by decide +kernel), qv_gin 69 (by decide +kernel) (by decide +kernel), by decide +kernel, by decide +kernel⟩
theorem lk_RX9_116 : Cond.methodLink RX9 116 yX9_settleRegister ∈ qv_gt := qv_gin 421 (by decide +kernel) (by decide +kernel)
theorem im_X9_settleRegister : Cond.instanceMethod yX9_settleRegister ∈ qv_gt := qv_gin 423 (by decide +kernel) (by decide +kernel)
theorem se_X9_settleRegister : Cond.selects yX9_settleRegister.cls yX9_settleRegister yX9_settleRegister ∈ qv_gt := qv_gin 7 (by decide +kernel) (by decide +kernel)
theorem pd_X9_settleRegister : (parseMethodDescriptor yX9_settleRegister.desc).map (fun d => d.parameters.length) = some 1 := by decide +kernel
theorem mw_X7_applyAhead : qv_mw yX7_applyAhead cX7_applyAhead 2 none := ⟨qv_gin 432 (by decide +kernel) (by decide +kernel), qv_gin 71 (by decide +kernel) (by decide +kernel), by decide +kernel, by decide +kernel⟩
theorem lk_RX9_120 : Cond.methodLink RX9 120 yX7_applyAhead ∈ qv_gt := qv_gin 429 (by decide +kernel) (by decide +kernel)
theorem im_X7_applyAhead : Cond.instanceMethod yX7_applyAhead ∈ qv_gt := qv_gin 430 (by decide +kernel) (by decide +kernel)
theorem se_X7_applyAhead : Cond.selects yX7_applyAhead.cls yX7_applyAhead yX7_applyAhead ∈ qv_gt := qv_gin 431 (by decide +kernel) (by decide +kernel)
theorem pd_X7_applyAhead : (parseMethodDescriptor yX7_applyAhead.desc).map (fun d => d.parameters.length) = some 1 := by decide +kernel
theorem mw_X7_addProduct : qv_mw yX7_addProduct cX7_addProduct 22 none := ⟨qv_gin 444 (by decide +kernel) (by decide +kernel), qv_gin 71 (by decide +kernel) (by decide +kernel), by decide +kernel, by decide +kernel⟩
theorem lk_RX7_35 : Cond.methodLink RX7 35 yX7_addProduct ∈ qv_gt := qv_gin 441 (by decide +kernel) (by decide +kernel)
theorem im_X7_addProduct : Cond.instanceMethod yX7_addProduct ∈ qv_gt := qv_gin 443 (by decide +kernel) (by decide +kernel)
theorem se_X7_addProduct : Cond.selects yX7_addProduct.cls yX7_addProduct yX7_addProduct ∈ qv_gt := qv_gin 8 (by decide +kernel) (by decide +kernel)
theorem pd_X7_addProduct : (parseMethodDescriptor yX7_addProduct.desc).map (fun d => d.parameters.length) = some 5 := by decide +kernel
theorem mw_X7_makeProduct : qv_mw yX7_makeProduct cX7_makeProduct 6 none := ⟨qv_gin 440 (by decide +kernel) (by decide +kernel), qv_gin 71 (by decide +kernel) (by decide +kernel), by decide +kernel, by decide +kernel⟩
theorem lk_RX9_123 : Cond.methodLink RX9 123 yX7_makeProduct ∈ qv_gt := qv_gin 437 (by decide +kernel) (by decide +kernel)
theorem im_X7_makeProduct : Cond.instanceMethod yX7_makeProduct ∈ qv_gt := qv_gin 438 (by decide +kernel) (by decide +kernel)
theorem se_X7_makeProduct : Cond.selects yX7_makeProduct.cls yX7_makeProduct yX7_makeProduct ∈ qv_gt := qv_gin 439 (by decide +kernel) (by decide +kernel)
theorem pd_X7_makeProduct : (parseMethodDescriptor yX7_makeProduct.desc).map (fun d => d.parameters.length) = some 2 := by decide +kernel
theorem lk_RX9_127 : Cond.methodLink RX9 127 yX7_lower ∈ qv_gt := qv_gin 445 (by decide +kernel) (by decide +kernel)
theorem mw_X7_makeTurned : qv_mw yX7_makeTurned cX7_makeTurned 6 none := ⟨qv_gin 453 (by decide +kernel) (by decide +kernel), qv_gin 71 (by decide +kernel) (by decide +kernel), by decide +kernel, by decide +kernel⟩
theorem lk_RX9_130 : Cond.methodLink RX9 130 yX7_makeTurned ∈ qv_gt := qv_gin 450 (by decide +kernel) (by decide +kernel)
theorem im_X7_makeTurned : Cond.instanceMethod yX7_makeTurned ∈ qv_gt := qv_gin 451 (by decide +kernel) (by decide +kernel)
theorem se_X7_makeTurned : Cond.selects yX7_makeTurned.cls yX7_makeTurned yX7_makeTurned ∈ qv_gt := qv_gin 452 (by decide +kernel) (by decide +kernel)
theorem pd_X7_makeTurned : (parseMethodDescriptor yX7_makeTurned.desc).map (fun d => d.parameters.length) = some 1 := by decide +kernel
theorem kl_RX9_137 : Cond.constantLong RX9 137 (-9223372036854775808) ∈ qv_gt := qv_gin 458 (by decide +kernel) (by decide +kernel)
theorem fw_RX9_139 : qv_fw RX9 139 7 0 := ⟨RX7, TX7, 2, rfl, by decide, gl_X7, qv_gin 119 (by decide +kernel) (by decide +kernel), rfl⟩
theorem lk_RX9_143 : Cond.methodLink RX9 143 yX7_placeOf ∈ qv_gt := qv_gin 459 (by decide +kernel) (by decide +kernel)
theorem mw_X7_isSame : qv_mw yX7_isSame cX7_isSame 3 (some .boolean) := ⟨qv_gin 471 (by decide +kernel) (by decide +kernel), qv_gin 71 (by decide +kernel) (by decide +kernel), by decide +kernel, by decide +kernel⟩
theorem lk_RX9_147 : Cond.methodLink RX9 147 yX7_isSame ∈ qv_gt := qv_gin 468 (by decide +kernel) (by decide +kernel)
theorem im_X7_isSame : Cond.instanceMethod yX7_isSame ∈ qv_gt := qv_gin 469 (by decide +kernel) (by decide +kernel)
theorem se_X7_isSame : Cond.selects yX7_isSame.cls yX7_isSame yX7_isSame ∈ qv_gt := qv_gin 470 (by decide +kernel) (by decide +kernel)
theorem pd_X7_isSame : (parseMethodDescriptor yX7_isSame.desc).map (fun d => d.parameters.length) = some 1 := by decide +kernel
theorem gl_X1 : ∀ w ∈ u_ws RX1 TX1 6, w ∈ qv_gt := qv_all [283, 285, 287, 289, 291, 293] (by decide +kernel) (by decide +kernel)
theorem fw_RX1_32 : qv_fw RX1 32 1 5 := ⟨RX1, TX1, 6, rfl, by decide, gl_X1, qv_gin 282 (by decide +kernel) (by decide +kernel), rfl⟩
theorem fw_RX1_29 : qv_fw RX1 29 1 4 := ⟨RX1, TX1, 6, rfl, by decide, gl_X1, qv_gin 281 (by decide +kernel) (by decide +kernel), rfl⟩
theorem fw_RX1_25 : qv_fw RX1 25 1 3 := ⟨RX1, TX1, 6, rfl, by decide, gl_X1, qv_gin 280 (by decide +kernel) (by decide +kernel), rfl⟩
theorem lk_RX1_55 : Cond.methodLink RX1 55 yX7_makeProduct ∈ qv_gt := qv_gin 487 (by decide +kernel) (by decide +kernel)
theorem lk_RX1_59 : Cond.methodLink RX1 59 yX7_placeOf ∈ qv_gt := qv_gin 488 (by decide +kernel) (by decide +kernel)
theorem fw_RX1_11 : qv_fw RX1 11 1 0 := ⟨RX1, TX1, 6, rfl, by decide, gl_X1, qv_gin 273 (by decide +kernel) (by decide +kernel), rfl⟩
theorem kl_RX1_63 : Cond.constantLong RX1 63 2 ∈ qv_gt := qv_gin 489 (by decide +kernel) (by decide +kernel)
theorem fw_RX1_65 : qv_fw RX1 65 7 0 := ⟨RX7, TX7, 2, rfl, by decide, gl_X7, qv_gin 117 (by decide +kernel) (by decide +kernel), rfl⟩
theorem fw_RX1_15 : qv_fw RX1 15 1 1 := ⟨RX1, TX1, 6, rfl, by decide, gl_X1, qv_gin 275 (by decide +kernel) (by decide +kernel), rfl⟩
theorem kl_RX1_68 : Cond.constantLong RX1 68 (-2) ∈ qv_gt := qv_gin 490 (by decide +kernel) (by decide +kernel)
theorem fw_RX1_18 : qv_fw RX1 18 1 2 := ⟨RX1, TX1, 6, rfl, by decide, gl_X1, qv_gin 277 (by decide +kernel) (by decide +kernel), rfl⟩
theorem mw_X1_isEven : qv_mw yX1_isEven cX1_isEven 2 (some .boolean) := ⟨qv_gin 498 (by decide +kernel) (by decide +kernel), qv_gin 77 (by decide +kernel) (by decide +kernel), by decide +kernel, by decide +kernel⟩
theorem lk_RX1_70 : Cond.methodLink RX1 70 yX1_isEven ∈ qv_gt := qv_gin 495 (by decide +kernel) (by decide +kernel)
theorem im_X1_isEven : Cond.instanceMethod yX1_isEven ∈ qv_gt := qv_gin 497 (by decide +kernel) (by decide +kernel)
theorem se_X1_isEven : Cond.selects yX1_isEven.cls yX1_isEven yX1_isEven ∈ qv_gt := qv_gin 11 (by decide +kernel) (by decide +kernel)
theorem pd_X1_isEven : (parseMethodDescriptor yX1_isEven.desc).map (fun d => d.parameters.length) = some 0 := by decide +kernel
theorem pw_RX1_18 : qv_pw RX1 18 1 2 false .int := ⟨RX1, TX1, 6, tyX1, rfl, by decide, gl_X1, qv_gin 277 (by decide +kernel) (by decide +kernel), rfl, tyX1_ok, nmX1, rfl, tyX1_ok 2 (by decide)⟩
theorem lk_RX1_35 : Cond.methodLink RX1 35 yX7_makeTurned ∈ qv_gt := qv_gin 480 (by decide +kernel) (by decide +kernel)
theorem lk_RX1_39 : Cond.methodLink RX1 39 yX7_makeCopy ∈ qv_gt := qv_gin 481 (by decide +kernel) (by decide +kernel)
theorem lk_RX1_42 : Cond.methodLink RX1 42 yX7_applyBehind ∈ qv_gt := qv_gin 482 (by decide +kernel) (by decide +kernel)
theorem mw_X1_fillColumn : qv_mw yX1_fillColumn cX1_fillColumn 3 none := ⟨qv_gin 486 (by decide +kernel) (by decide +kernel), qv_gin 77 (by decide +kernel) (by decide +kernel), by decide +kernel, by decide +kernel⟩
theorem lk_RX1_46 : Cond.methodLink RX1 46 yX1_fillColumn ∈ qv_gt := qv_gin 483 (by decide +kernel) (by decide +kernel)
theorem im_X1_fillColumn : Cond.instanceMethod yX1_fillColumn ∈ qv_gt := qv_gin 485 (by decide +kernel) (by decide +kernel)
theorem se_X1_fillColumn : Cond.selects yX1_fillColumn.cls yX1_fillColumn yX1_fillColumn ∈ qv_gt := qv_gin 9 (by decide +kernel) (by decide +kernel)
theorem pd_X1_fillColumn : (parseMethodDescriptor yX1_fillColumn.desc).map (fun d => d.parameters.length) = some 1 := by decide +kernel
theorem fw_RX1_49 : qv_fw RX1 49 7 1 := ⟨RX7, TX7, 2, rfl, by decide, gl_X7, qv_gin 122 (by decide +kernel) (by decide +kernel), rfl⟩
theorem mw_X1_lower : qv_mw yX1_lower cX1_lower 5 none := ⟨qv_gin 494 (by decide +kernel) (by decide +kernel), qv_gin 77 (by decide +kernel) (by decide +kernel), by decide +kernel, by decide +kernel⟩
theorem lk_RX1_52 : Cond.methodLink RX1 52 yX1_lower ∈ qv_gt := qv_gin 491 (by decide +kernel) (by decide +kernel)
theorem im_X1_lower : Cond.instanceMethod yX1_lower ∈ qv_gt := qv_gin 493 (by decide +kernel) (by decide +kernel)
theorem se_X1_lower : Cond.selects yX1_lower.cls yX1_lower yX1_lower ∈ qv_gt := qv_gin 10 (by decide +kernel) (by decide +kernel)
theorem pd_X1_lower : (parseMethodDescriptor yX1_lower.desc).map (fun d => d.parameters.length) = some 0 := by decide +kernel
theorem fw_RX9_56 : qv_fw RX9 56 9 7 := ⟨RX9, TX9, 14, rfl, by decide, gl_X9, qv_gin 327 (by decide +kernel) (by decide +kernel), rfl⟩
theorem mw_X1_makeOf : qv_mw yX1_makeOf cX1_makeOf 2 none := ⟨qv_gin 479 (by decide +kernel) (by decide +kernel), qv_gin 77 (by decide +kernel) (by decide +kernel), by decide +kernel, by decide +kernel⟩
theorem lk_RX9_151 : Cond.methodLink RX9 151 yX1_makeOf ∈ qv_gt := qv_gin 476 (by decide +kernel) (by decide +kernel)
theorem im_X1_makeOf : Cond.instanceMethod yX1_makeOf ∈ qv_gt := qv_gin 477 (by decide +kernel) (by decide +kernel)
theorem se_X1_makeOf : Cond.selects yX1_makeOf.cls yX1_makeOf yX1_makeOf ∈ qv_gt := qv_gin 478 (by decide +kernel) (by decide +kernel)
theorem pd_X1_makeOf : (parseMethodDescriptor yX1_makeOf.desc).map (fun d => d.parameters.length) = some 1 := by decide +kernel
theorem fw_RX9_157 : qv_fw RX9 157 1 1 := ⟨RX1, TX1, 6, rfl, by decide, gl_X1, qv_gin 276 (by decide +kernel) (by decide +kernel), rfl⟩
theorem fw_RX9_154 : qv_fw RX9 154 1 0 := ⟨RX1, TX1, 6, rfl, by decide, gl_X1, qv_gin 274 (by decide +kernel) (by decide +kernel), rfl⟩
theorem fw_RX9_160 : qv_fw RX9 160 1 2 := ⟨RX1, TX1, 6, rfl, by decide, gl_X1, qv_gin 279 (by decide +kernel) (by decide +kernel), rfl⟩
theorem fw_RX2_78 : qv_fw RX2 78 7 1 := ⟨RX7, TX7, 2, rfl, by decide, gl_X7, qv_gin 123 (by decide +kernel) (by decide +kernel), rfl⟩
theorem fw_RX2_74 : qv_fw RX2 74 7 0 := ⟨RX7, TX7, 2, rfl, by decide, gl_X7, qv_gin 118 (by decide +kernel) (by decide +kernel), rfl⟩
theorem kl_RX2_81 : Cond.constantLong RX2 81 (-1) ∈ qv_gt := qv_gin 515 (by decide +kernel) (by decide +kernel)
theorem gl_X2 : ∀ w ∈ u_ws RX2 TX2 10, w ∈ qv_gt := qv_all [244, 246, 248, 250, 252, 254, 256, 258, 260, 262] (by decide +kernel) (by decide +kernel)
theorem fw_RX2_9 : qv_fw RX2 9 2 0 := ⟨RX2, TX2, 10, rfl, by decide, gl_X2, qv_gin 234 (by decide +kernel) (by decide +kernel), rfl⟩
theorem pw_RX2_78 : qv_pw RX2 78 7 1 false .int := ⟨RX7, TX7, 2, tyX7, rfl, by decide, gl_X7, qv_gin 123 (by decide +kernel) (by decide +kernel), rfl, tyX7_ok, nmX7, rfl, tyX7_ok 1 (by decide)⟩
theorem fw_RX2_40 : qv_fw RX2 40 2 8 := ⟨RX2, TX2, 10, rfl, by decide, gl_X2, qv_gin 242 (by decide +kernel) (by decide +kernel), rfl⟩
theorem fw_RX2_36 : qv_fw RX2 36 2 7 := ⟨RX2, TX2, 10, rfl, by decide, gl_X2, qv_gin 241 (by decide +kernel) (by decide +kernel), rfl⟩
theorem mw_X2_load : qv_mw yX2_load cX2_load 5 none := ⟨qv_gin 523 (by decide +kernel) (by decide +kernel), qv_gin 76 (by decide +kernel) (by decide +kernel), by decide +kernel, by decide +kernel⟩
theorem lk_RX2_83 : Cond.methodLink RX2 83 yX2_load ∈ qv_gt := qv_gin 520 (by decide +kernel) (by decide +kernel)
theorem im_X2_load : Cond.instanceMethod yX2_load ∈ qv_gt := qv_gin 521 (by decide +kernel) (by decide +kernel)
theorem se_X2_load : Cond.selects yX2_load.cls yX2_load yX2_load ∈ qv_gt := qv_gin 522 (by decide +kernel) (by decide +kernel)
theorem pd_X2_load : (parseMethodDescriptor yX2_load.desc).map (fun d => d.parameters.length) = some 2 := by decide +kernel
theorem lk_RX2_87 : Cond.methodLink RX2 87 yX7_applyBehind ∈ qv_gt := qv_gin 524 (by decide +kernel) (by decide +kernel)
theorem mw_X2_keyOf : qv_mw yX2_keyOf cX2_keyOf 5 (some .int) := ⟨qv_gin 514 (by decide +kernel) (by decide +kernel), qv_gin 76 (by decide +kernel) (by decide +kernel), by decide +kernel, by decide +kernel⟩
theorem lk_RX2_51 : Cond.methodLink RX2 51 yX2_keyOf ∈ qv_gt := qv_gin 512 (by decide +kernel) (by decide +kernel)
theorem st_X2_keyOf : Cond.static yX2_keyOf ∈ qv_gt := qv_gin 513 (by decide +kernel) (by decide +kernel)
theorem pd_X2_keyOf : (parseMethodDescriptor yX2_keyOf.desc).map (fun d => d.parameters.length) = some 1 := by decide +kernel
theorem mw_X2_findKey : qv_mw yX2_findKey cX2_findKey 3 (some .int) := ⟨qv_gin 528 (by decide +kernel) (by decide +kernel), qv_gin 76 (by decide +kernel) (by decide +kernel), by decide +kernel, by decide +kernel⟩
theorem lk_RX2_70 : Cond.methodLink RX2 70 yX2_findKey ∈ qv_gt := qv_gin 525 (by decide +kernel) (by decide +kernel)
theorem im_X2_findKey : Cond.instanceMethod yX2_findKey ∈ qv_gt := qv_gin 527 (by decide +kernel) (by decide +kernel)
theorem se_X2_findKey : Cond.selects yX2_findKey.cls yX2_findKey yX2_findKey ∈ qv_gt := qv_gin 13 (by decide +kernel) (by decide +kernel)
theorem pd_X2_findKey : (parseMethodDescriptor yX2_findKey.desc).map (fun d => d.parameters.length) = some 1 := by decide +kernel
theorem fw_RX2_15 : qv_fw RX2 15 2 1 := ⟨RX2, TX2, 10, rfl, by decide, gl_X2, qv_gin 235 (by decide +kernel) (by decide +kernel), rfl⟩
theorem lk_RX2_90 : Cond.methodLink RX2 90 Lib.Math.max.name ∈ qv_gt := qv_gin 529 (by decide +kernel) (by decide +kernel)
theorem st_math_max : Cond.static Lib.Math.max.name ∈ qv_gt := qv_gin 530 (by decide +kernel) (by decide +kernel)
theorem ini_math : Cond.initialized "java/lang/Math" ∈ qv_gt := qv_gin 81 (by decide +kernel) (by decide +kernel)
theorem cd_math_max : Cond.code Lib.Math.max.name Lib.Math.max.code 2 (some .int) ∈ qv_gt := qv_gin 531 (by decide +kernel) (by decide +kernel)
theorem fw_RX2_21 : qv_fw RX2 21 2 3 := ⟨RX2, TX2, 10, rfl, by decide, gl_X2, qv_gin 237 (by decide +kernel) (by decide +kernel), rfl⟩
theorem fw_RX2_24 : qv_fw RX2 24 2 4 := ⟨RX2, TX2, 10, rfl, by decide, gl_X2, qv_gin 238 (by decide +kernel) (by decide +kernel), rfl⟩
theorem pw_RX2_40 : qv_pw RX2 40 2 8 false .int := ⟨RX2, TX2, 10, tyX2, rfl, by decide, gl_X2, qv_gin 242 (by decide +kernel) (by decide +kernel), rfl, tyX2_ok, nmX2, rfl, tyX2_ok 8 (by decide)⟩
theorem fw_RX2_18 : qv_fw RX2 18 2 2 := ⟨RX2, TX2, 10, rfl, by decide, gl_X2, qv_gin 236 (by decide +kernel) (by decide +kernel), rfl⟩
theorem mw_X2_next : qv_mw yX2_next cX2_next 3 (some .int) := ⟨qv_gin 535 (by decide +kernel) (by decide +kernel), qv_gin 76 (by decide +kernel) (by decide +kernel), by decide +kernel, by decide +kernel⟩
theorem lk_RX2_59 : Cond.methodLink RX2 59 yX2_next ∈ qv_gt := qv_gin 532 (by decide +kernel) (by decide +kernel)
theorem im_X2_next : Cond.instanceMethod yX2_next ∈ qv_gt := qv_gin 533 (by decide +kernel) (by decide +kernel)
theorem se_X2_next : Cond.selects yX2_next.cls yX2_next yX2_next ∈ qv_gt := qv_gin 534 (by decide +kernel) (by decide +kernel)
theorem pd_X2_next : (parseMethodDescriptor yX2_next.desc).map (fun d => d.parameters.length) = some 2 := by decide +kernel
theorem lk_RX2_48 : Cond.methodLink RX2 48 yX7_makeUnit ∈ qv_gt := qv_gin 511 (by decide +kernel) (by decide +kernel)
theorem fs_RX2_63 : Cond.fieldLink RX2 63 "RootGates$Cliffords" "PLAIN_GATES" "[I" ∈ qv_gt := qv_gin 536 (by decide +kernel) (by decide +kernel)
theorem mw_X2_fillWithout : qv_mw yX2_fillWithout cX2_fillWithout 3 none := ⟨qv_gin 541 (by decide +kernel) (by decide +kernel), qv_gin 76 (by decide +kernel) (by decide +kernel), by decide +kernel, by decide +kernel⟩
theorem lk_RX2_66 : Cond.methodLink RX2 66 yX2_fillWithout ∈ qv_gt := qv_gin 538 (by decide +kernel) (by decide +kernel)
theorem im_X2_fillWithout : Cond.instanceMethod yX2_fillWithout ∈ qv_gt := qv_gin 540 (by decide +kernel) (by decide +kernel)
theorem se_X2_fillWithout : Cond.selects yX2_fillWithout.cls yX2_fillWithout yX2_fillWithout ∈ qv_gt := qv_gin 14 (by decide +kernel) (by decide +kernel)
theorem pd_X2_fillWithout : (parseMethodDescriptor yX2_fillWithout.desc).map (fun d => d.parameters.length) = some 1 := by decide +kernel
theorem mw_X2_reach : qv_mw yX2_reach cX2_reach 5 none := ⟨qv_gin 519 (by decide +kernel) (by decide +kernel), qv_gin 76 (by decide +kernel) (by decide +kernel), by decide +kernel, by decide +kernel⟩
theorem lk_RX2_55 : Cond.methodLink RX2 55 yX2_reach ∈ qv_gt := qv_gin 516 (by decide +kernel) (by decide +kernel)
theorem im_X2_reach : Cond.instanceMethod yX2_reach ∈ qv_gt := qv_gin 518 (by decide +kernel) (by decide +kernel)
theorem se_X2_reach : Cond.selects yX2_reach.cls yX2_reach yX2_reach ∈ qv_gt := qv_gin 12 (by decide +kernel) (by decide +kernel)
theorem pd_X2_reach : (parseMethodDescriptor yX2_reach.desc).map (fun d => d.parameters.length) = some 2 := by decide +kernel
theorem fw_RX9_49 : qv_fw RX9 49 9 6 := ⟨RX9, TX9, 14, rfl, by decide, gl_X9, qv_gin 326 (by decide +kernel) (by decide +kernel), rfl⟩
theorem mw_X2_prepare : qv_mw yX2_prepare cX2_prepare 5 none := ⟨qv_gin 510 (by decide +kernel) (by decide +kernel), qv_gin 76 (by decide +kernel) (by decide +kernel), by decide +kernel, by decide +kernel⟩
theorem lk_RX9_163 : Cond.methodLink RX9 163 yX2_prepare ∈ qv_gt := qv_gin 507 (by decide +kernel) (by decide +kernel)
theorem im_X2_prepare : Cond.instanceMethod yX2_prepare ∈ qv_gt := qv_gin 508 (by decide +kernel) (by decide +kernel)
theorem se_X2_prepare : Cond.selects yX2_prepare.cls yX2_prepare yX2_prepare ∈ qv_gt := qv_gin 509 (by decide +kernel) (by decide +kernel)
theorem pd_X2_prepare : (parseMethodDescriptor yX2_prepare.desc).map (fun d => d.parameters.length) = some 0 := by decide +kernel
theorem mw_X2_find : qv_mw yX2_find cX2_find 2 (some .int) := ⟨qv_gin 545 (by decide +kernel) (by decide +kernel), qv_gin 76 (by decide +kernel) (by decide +kernel), by decide +kernel, by decide +kernel⟩
theorem lk_RX9_166 : Cond.methodLink RX9 166 yX2_find ∈ qv_gt := qv_gin 542 (by decide +kernel) (by decide +kernel)
theorem im_X2_find : Cond.instanceMethod yX2_find ∈ qv_gt := qv_gin 543 (by decide +kernel) (by decide +kernel)
theorem se_X2_find : Cond.selects yX2_find.cls yX2_find yX2_find ∈ qv_gt := qv_gin 544 (by decide +kernel) (by decide +kernel)
theorem pd_X2_find : (parseMethodDescriptor yX2_find.desc).map (fun d => d.parameters.length) = some 1 := by decide +kernel
theorem lk_RX9_170 : Cond.methodLink RX9 170 yX2_load ∈ qv_gt := qv_gin 550 (by decide +kernel) (by decide +kernel)
theorem lk_RX9_174 : Cond.methodLink RX9 174 yX2_next ∈ qv_gt := qv_gin 555 (by decide +kernel) (by decide +kernel)
theorem fw_RX9_177 : qv_fw RX9 177 0 2 := ⟨RX0, TX0, 3, rfl, by decide, gl_X0, qv_gin 153 (by decide +kernel) (by decide +kernel), rfl⟩
theorem fw_RX2_30 : qv_fw RX2 30 2 6 := ⟨RX2, TX2, 10, rfl, by decide, gl_X2, qv_gin 240 (by decide +kernel) (by decide +kernel), rfl⟩
theorem fw_RX2_27 : qv_fw RX2 27 2 5 := ⟨RX2, TX2, 10, rfl, by decide, gl_X2, qv_gin 239 (by decide +kernel) (by decide +kernel), rfl⟩
theorem mw_X2_weightOf : qv_mw yX2_weightOf cX2_weightOf 2 (some .int) := ⟨qv_gin 582 (by decide +kernel) (by decide +kernel), qv_gin 76 (by decide +kernel) (by decide +kernel), by decide +kernel, by decide +kernel⟩
theorem lk_RX2_113 : Cond.methodLink RX2 113 yX2_weightOf ∈ qv_gt := qv_gin 579 (by decide +kernel) (by decide +kernel)
theorem im_X2_weightOf : Cond.instanceMethod yX2_weightOf ∈ qv_gt := qv_gin 581 (by decide +kernel) (by decide +kernel)
theorem se_X2_weightOf : Cond.selects yX2_weightOf.cls yX2_weightOf yX2_weightOf ∈ qv_gt := qv_gin 17 (by decide +kernel) (by decide +kernel)
theorem pd_X2_weightOf : (parseMethodDescriptor yX2_weightOf.desc).map (fun d => d.parameters.length) = some 1 := by decide +kernel
theorem lk_RX2_95 : Cond.methodLink RX2 95 yX2_prepare ∈ qv_gt := qv_gin 568 (by decide +kernel) (by decide +kernel)
theorem fw_RX2_44 : qv_fw RX2 44 2 9 := ⟨RX2, TX2, 10, rfl, by decide, gl_X2, qv_gin 243 (by decide +kernel) (by decide +kernel), rfl⟩
theorem lk_RX2_102 : Cond.methodLink RX2 102 arraycopyName ∈ qv_gt := qv_gin 573 (by decide +kernel) (by decide +kernel)
theorem pw_RX2_44 : qv_pw RX2 44 2 9 false .boolean := ⟨RX2, TX2, 10, tyX2, rfl, by decide, gl_X2, qv_gin 243 (by decide +kernel) (by decide +kernel), rfl, tyX2_ok, nmX2, rfl, tyX2_ok 9 (by decide)⟩
theorem mw_X2_improveRanks : qv_mw yX2_improveRanks cX2_improveRanks 9 (some .boolean) := ⟨qv_gin 578 (by decide +kernel) (by decide +kernel), qv_gin 76 (by decide +kernel) (by decide +kernel), by decide +kernel, by decide +kernel⟩
theorem lk_RX2_109 : Cond.methodLink RX2 109 yX2_improveRanks ∈ qv_gt := qv_gin 575 (by decide +kernel) (by decide +kernel)
theorem im_X2_improveRanks : Cond.instanceMethod yX2_improveRanks ∈ qv_gt := qv_gin 577 (by decide +kernel) (by decide +kernel)
theorem se_X2_improveRanks : Cond.selects yX2_improveRanks.cls yX2_improveRanks yX2_improveRanks ∈ qv_gt := qv_gin 16 (by decide +kernel) (by decide +kernel)
theorem pd_X2_improveRanks : (parseMethodDescriptor yX2_improveRanks.desc).map (fun d => d.parameters.length) = some 0 := by decide +kernel
theorem ki_RX2_108 : Cond.constant RX2 108 1073741824 ∈ qv_gt := qv_gin 574 (by decide +kernel) (by decide +kernel)
theorem mw_X2_isRankedBy : qv_mw yX2_isRankedBy cX2_isRankedBy 6 (some .boolean) := ⟨qv_gin 572 (by decide +kernel) (by decide +kernel), qv_gin 76 (by decide +kernel) (by decide +kernel), by decide +kernel, by decide +kernel⟩
theorem lk_RX2_98 : Cond.methodLink RX2 98 yX2_isRankedBy ∈ qv_gt := qv_gin 569 (by decide +kernel) (by decide +kernel)
theorem im_X2_isRankedBy : Cond.instanceMethod yX2_isRankedBy ∈ qv_gt := qv_gin 571 (by decide +kernel) (by decide +kernel)
theorem se_X2_isRankedBy : Cond.selects yX2_isRankedBy.cls yX2_isRankedBy yX2_isRankedBy ∈ qv_gt := qv_gin 15 (by decide +kernel) (by decide +kernel)
theorem pd_X2_isRankedBy : (parseMethodDescriptor yX2_isRankedBy.desc).map (fun d => d.parameters.length) = some 1 := by decide +kernel
theorem mw_X2_firstGateOf : qv_mw yX2_firstGateOf cX2_firstGateOf 6 (some .int) := ⟨qv_gin 603 (by decide +kernel) (by decide +kernel), qv_gin 76 (by decide +kernel) (by decide +kernel), by decide +kernel, by decide +kernel⟩
theorem lk_RX2_122 : Cond.methodLink RX2 122 yX2_firstGateOf ∈ qv_gt := qv_gin 600 (by decide +kernel) (by decide +kernel)
theorem im_X2_firstGateOf : Cond.instanceMethod yX2_firstGateOf ∈ qv_gt := qv_gin 601 (by decide +kernel) (by decide +kernel)
theorem se_X2_firstGateOf : Cond.selects yX2_firstGateOf.cls yX2_firstGateOf yX2_firstGateOf ∈ qv_gt := qv_gin 602 (by decide +kernel) (by decide +kernel)
theorem pd_X2_firstGateOf : (parseMethodDescriptor yX2_firstGateOf.desc).map (fun d => d.parameters.length) = some 1 := by decide +kernel
theorem mw_X2_lengthOf : qv_mw yX2_lengthOf cX2_lengthOf 2 (some .int) := ⟨qv_gin 590 (by decide +kernel) (by decide +kernel), qv_gin 76 (by decide +kernel) (by decide +kernel), by decide +kernel, by decide +kernel⟩
theorem lk_RX2_116 : Cond.methodLink RX2 116 yX2_lengthOf ∈ qv_gt := qv_gin 595 (by decide +kernel) (by decide +kernel)
theorem im_X2_lengthOf : Cond.instanceMethod yX2_lengthOf ∈ qv_gt := qv_gin 588 (by decide +kernel) (by decide +kernel)
theorem se_X2_lengthOf : Cond.selects yX2_lengthOf.cls yX2_lengthOf yX2_lengthOf ∈ qv_gt := qv_gin 589 (by decide +kernel) (by decide +kernel)
theorem pd_X2_lengthOf : (parseMethodDescriptor yX2_lengthOf.desc).map (fun d => d.parameters.length) = some 1 := by decide +kernel
theorem mw_X2_restOf : qv_mw yX2_restOf cX2_restOf 3 (some .int) := ⟨qv_gin 599 (by decide +kernel) (by decide +kernel), qv_gin 76 (by decide +kernel) (by decide +kernel), by decide +kernel, by decide +kernel⟩
theorem lk_RX2_119 : Cond.methodLink RX2 119 yX2_restOf ∈ qv_gt := qv_gin 596 (by decide +kernel) (by decide +kernel)
theorem im_X2_restOf : Cond.instanceMethod yX2_restOf ∈ qv_gt := qv_gin 597 (by decide +kernel) (by decide +kernel)
theorem se_X2_restOf : Cond.selects yX2_restOf.cls yX2_restOf yX2_restOf ∈ qv_gt := qv_gin 598 (by decide +kernel) (by decide +kernel)
theorem pd_X2_restOf : (parseMethodDescriptor yX2_restOf.desc).map (fun d => d.parameters.length) = some 1 := by decide +kernel
theorem mw_X2_rankBy : qv_mw yX2_rankBy cX2_rankBy 4 none := ⟨qv_gin 567 (by decide +kernel) (by decide +kernel), qv_gin 76 (by decide +kernel) (by decide +kernel), by decide +kernel, by decide +kernel⟩
theorem lk_RX9_181 : Cond.methodLink RX9 181 yX2_rankBy ∈ qv_gt := qv_gin 564 (by decide +kernel) (by decide +kernel)
theorem im_X2_rankBy : Cond.instanceMethod yX2_rankBy ∈ qv_gt := qv_gin 565 (by decide +kernel) (by decide +kernel)
theorem se_X2_rankBy : Cond.selects yX2_rankBy.cls yX2_rankBy yX2_rankBy ∈ qv_gt := qv_gin 566 (by decide +kernel) (by decide +kernel)
theorem pd_X2_rankBy : (parseMethodDescriptor yX2_rankBy.desc).map (fun d => d.parameters.length) = some 1 := by decide +kernel
theorem mw_X2_gateOf : qv_mw yX2_gateOf cX2_gateOf 5 (some .int) := ⟨qv_gin 594 (by decide +kernel) (by decide +kernel), qv_gin 76 (by decide +kernel) (by decide +kernel), by decide +kernel, by decide +kernel⟩
theorem lk_RX9_191 : Cond.methodLink RX9 191 yX2_gateOf ∈ qv_gt := qv_gin 591 (by decide +kernel) (by decide +kernel)
theorem im_X2_gateOf : Cond.instanceMethod yX2_gateOf ∈ qv_gt := qv_gin 592 (by decide +kernel) (by decide +kernel)
theorem se_X2_gateOf : Cond.selects yX2_gateOf.cls yX2_gateOf yX2_gateOf ∈ qv_gt := qv_gin 593 (by decide +kernel) (by decide +kernel)
theorem pd_X2_gateOf : (parseMethodDescriptor yX2_gateOf.desc).map (fun d => d.parameters.length) = some 2 := by decide +kernel
theorem lk_RX9_188 : Cond.methodLink RX9 188 yX2_lengthOf ∈ qv_gt := qv_gin 587 (by decide +kernel) (by decide +kernel)
theorem mw_X2_costOf : qv_mw yX2_costOf cX2_costOf 2 (some .int) := ⟨qv_gin 586 (by decide +kernel) (by decide +kernel), qv_gin 76 (by decide +kernel) (by decide +kernel), by decide +kernel, by decide +kernel⟩
theorem lk_RX9_185 : Cond.methodLink RX9 185 yX2_costOf ∈ qv_gt := qv_gin 583 (by decide +kernel) (by decide +kernel)
theorem im_X2_costOf : Cond.instanceMethod yX2_costOf ∈ qv_gt := qv_gin 584 (by decide +kernel) (by decide +kernel)
theorem se_X2_costOf : Cond.selects yX2_costOf.cls yX2_costOf yX2_costOf ∈ qv_gt := qv_gin 585 (by decide +kernel) (by decide +kernel)
theorem pd_X2_costOf : (parseMethodDescriptor yX2_costOf.desc).map (fun d => d.parameters.length) = some 1 := by decide +kernel
theorem gl_X6 : ∀ w ∈ u_ws RX6 TX6 2, w ∈ qv_gt := qv_all [143, 145] (by decide +kernel) (by decide +kernel)
theorem fw_RX6_9 : qv_fw RX6 9 6 0 := ⟨RX6, TX6, 2, rfl, by decide, gl_X6, qv_gin 136 (by decide +kernel) (by decide +kernel), rfl⟩
theorem fw_RX6_15 : qv_fw RX6 15 6 1 := ⟨RX6, TX6, 2, rfl, by decide, gl_X6, qv_gin 137 (by decide +kernel) (by decide +kernel), rfl⟩
theorem lk_RX6_19 : Cond.methodLink RX6 19 arraycopyName ∈ qv_gt := qv_gin 615 (by decide +kernel) (by decide +kernel)
theorem pw_RX6_15 : qv_pw RX6 15 6 1 false .int := ⟨RX6, TX6, 2, tyX6, rfl, by decide, gl_X6, qv_gin 137 (by decide +kernel) (by decide +kernel), rfl, tyX6_ok, nmX6, rfl, tyX6_ok 1 (by decide)⟩
theorem gl_X3 : ∀ w ∈ u_ws RX3 TX3 4, w ∈ qv_gt := qv_all [174, 176, 178, 180] (by decide +kernel) (by decide +kernel)
theorem fw_RX3_11 : qv_fw RX3 11 3 0 := ⟨RX3, TX3, 4, rfl, by decide, gl_X3, qv_gin 169 (by decide +kernel) (by decide +kernel), rfl⟩
theorem fw_RX3_21 : qv_fw RX3 21 3 2 := ⟨RX3, TX3, 4, rfl, by decide, gl_X3, qv_gin 171 (by decide +kernel) (by decide +kernel), rfl⟩
theorem mw_X6_makeCopy : qv_mw yX6_makeCopy cX6_makeCopy 2 none := ⟨qv_gin 614 (by decide +kernel) (by decide +kernel), qv_gin 72 (by decide +kernel) (by decide +kernel), by decide +kernel, by decide +kernel⟩
theorem lk_RX3_29 : Cond.methodLink RX3 29 yX6_makeCopy ∈ qv_gt := qv_gin 632 (by decide +kernel) (by decide +kernel)
theorem im_X6_makeCopy : Cond.instanceMethod yX6_makeCopy ∈ qv_gt := qv_gin 612 (by decide +kernel) (by decide +kernel)
theorem se_X6_makeCopy : Cond.selects yX6_makeCopy.cls yX6_makeCopy yX6_makeCopy ∈ qv_gt := qv_gin 613 (by decide +kernel) (by decide +kernel)
theorem pd_X6_makeCopy : (parseMethodDescriptor yX6_makeCopy.desc).map (fun d => d.parameters.length) = some 1 := by decide +kernel
theorem fw_RX3_17 : qv_fw RX3 17 3 1 := ⟨RX3, TX3, 4, rfl, by decide, gl_X3, qv_gin 170 (by decide +kernel) (by decide +kernel), rfl⟩
theorem pw_RX3_21 : qv_pw RX3 21 3 2 false .int := ⟨RX3, TX3, 4, tyX3, rfl, by decide, gl_X3, qv_gin 171 (by decide +kernel) (by decide +kernel), rfl, tyX3_ok, nmX3, rfl, tyX3_ok 2 (by decide)⟩
theorem fw_RX3_25 : qv_fw RX3 25 3 3 := ⟨RX3, TX3, 4, rfl, by decide, gl_X3, qv_gin 172 (by decide +kernel) (by decide +kernel), rfl⟩
theorem lk_RX3_33 : Cond.methodLink RX3 33 Lib.Math.min.name ∈ qv_gt := qv_gin 633 (by decide +kernel) (by decide +kernel)
theorem st_math_min : Cond.static Lib.Math.min.name ∈ qv_gt := qv_gin 634 (by decide +kernel) (by decide +kernel)
theorem cd_math_min : Cond.code Lib.Math.min.name Lib.Math.min.code 2 (some .int) ∈ qv_gt := qv_gin 635 (by decide +kernel) (by decide +kernel)
theorem pw_RX3_25 : qv_pw RX3 25 3 3 false .int := ⟨RX3, TX3, 4, tyX3, rfl, by decide, gl_X3, qv_gin 172 (by decide +kernel) (by decide +kernel), rfl, tyX3_ok, nmX3, rfl, tyX3_ok 3 (by decide)⟩
theorem fw_RX9_197 : qv_fw RX9 197 0 1 := ⟨RX0, TX0, 3, rfl, by decide, gl_X0, qv_gin 151 (by decide +kernel) (by decide +kernel), rfl⟩
theorem fw_RX9_70 : qv_fw RX9 70 9 9 := ⟨RX9, TX9, 14, rfl, by decide, gl_X9, qv_gin 329 (by decide +kernel) (by decide +kernel), rfl⟩
theorem mw_X6_isSame : qv_mw yX6_isSame cX6_isSame 3 (some .boolean) := ⟨qv_gin 627 (by decide +kernel) (by decide +kernel), qv_gin 72 (by decide +kernel) (by decide +kernel), by decide +kernel, by decide +kernel⟩
theorem lk_RX9_267 : Cond.methodLink RX9 267 yX6_isSame ∈ qv_gt := qv_gin 624 (by decide +kernel) (by decide +kernel)
theorem im_X6_isSame : Cond.instanceMethod yX6_isSame ∈ qv_gt := qv_gin 625 (by decide +kernel) (by decide +kernel)
theorem se_X6_isSame : Cond.selects yX6_isSame.cls yX6_isSame yX6_isSame ∈ qv_gt := qv_gin 626 (by decide +kernel) (by decide +kernel)
theorem pd_X6_isSame : (parseMethodDescriptor yX6_isSame.desc).map (fun d => d.parameters.length) = some 1 := by decide +kernel
theorem fw_RX9_210 : qv_fw RX9 210 6 1 := ⟨RX6, TX6, 2, rfl, by decide, gl_X6, qv_gin 142 (by decide +kernel) (by decide +kernel), rfl⟩
theorem fw_RX9_28 : qv_fw RX9 28 9 3 := ⟨RX9, TX9, 14, rfl, by decide, gl_X9, qv_gin 323 (by decide +kernel) (by decide +kernel), rfl⟩
theorem mw_X3_keep : qv_mw yX3_keep cX3_keep 3 none := ⟨qv_gin 631 (by decide +kernel) (by decide +kernel), qv_gin 73 (by decide +kernel) (by decide +kernel), by decide +kernel, by decide +kernel⟩
theorem lk_RX9_270 : Cond.methodLink RX9 270 yX3_keep ∈ qv_gt := qv_gin 628 (by decide +kernel) (by decide +kernel)
theorem im_X3_keep : Cond.instanceMethod yX3_keep ∈ qv_gt := qv_gin 629 (by decide +kernel) (by decide +kernel)
theorem se_X3_keep : Cond.selects yX3_keep.cls yX3_keep yX3_keep ∈ qv_gt := qv_gin 630 (by decide +kernel) (by decide +kernel)
theorem pd_X3_keep : (parseMethodDescriptor yX3_keep.desc).map (fun d => d.parameters.length) = some 2 := by decide +kernel
theorem lk_RX9_201 : Cond.methodLink RX9 201 yX6_makeCopy ∈ qv_gt := qv_gin 611 (by decide +kernel) (by decide +kernel)
theorem mw_X9_isWord : qv_mw yX9_isWord cX9_isWord 1 (some .boolean) := ⟨qv_gin 610 (by decide +kernel) (by decide +kernel), qv_gin 69 (by decide +kernel) (by decide +kernel), by decide +kernel, by decide +kernel⟩
theorem lk_RX9_194 : Cond.methodLink RX9 194 yX9_isWord ∈ qv_gt := qv_gin 608 (by decide +kernel) (by decide +kernel)
theorem st_X9_isWord : Cond.static yX9_isWord ∈ qv_gt := qv_gin 609 (by decide +kernel) (by decide +kernel)
theorem pd_X9_isWord : (parseMethodDescriptor yX9_isWord.desc).map (fun d => d.parameters.length) = some 1 := by decide +kernel
theorem mw_X6_add : qv_mw yX6_add cX6_add 2 (some .boolean) := ⟨qv_gin 619 (by decide +kernel) (by decide +kernel), qv_gin 72 (by decide +kernel) (by decide +kernel), by decide +kernel, by decide +kernel⟩
theorem lk_RX9_204 : Cond.methodLink RX9 204 yX6_add ∈ qv_gt := qv_gin 616 (by decide +kernel) (by decide +kernel)
theorem im_X6_add : Cond.instanceMethod yX6_add ∈ qv_gt := qv_gin 617 (by decide +kernel) (by decide +kernel)
theorem se_X6_add : Cond.selects yX6_add.cls yX6_add yX6_add ∈ qv_gt := qv_gin 618 (by decide +kernel) (by decide +kernel)
theorem pd_X6_add : (parseMethodDescriptor yX6_add.desc).map (fun d => d.parameters.length) = some 1 := by decide +kernel
theorem mw_X9_settleWord : qv_mw yX9_settleWord cX9_settleWord 3 (some .int) := ⟨qv_gin 623 (by decide +kernel) (by decide +kernel), qv_gin 69 (by decide +kernel) (by decide +kernel), by decide +kernel, by decide +kernel⟩
theorem lk_RX9_207 : Cond.methodLink RX9 207 yX9_settleWord ∈ qv_gt := qv_gin 620 (by decide +kernel) (by decide +kernel)
theorem im_X9_settleWord : Cond.instanceMethod yX9_settleWord ∈ qv_gt := qv_gin 622 (by decide +kernel) (by decide +kernel)
theorem se_X9_settleWord : Cond.selects yX9_settleWord.cls yX9_settleWord yX9_settleWord ∈ qv_gt := qv_gin 18 (by decide +kernel) (by decide +kernel)
theorem pd_X9_settleWord : (parseMethodDescriptor yX9_settleWord.desc).map (fun d => d.parameters.length) = some 1 := by decide +kernel
theorem ln_RX6_25 : Cond.methodLinkNest RX6 25 yX9_isBelow "RootGates" ∈ qv_nst := List.mem_of_getElem? (i := 9) (by decide +kernel)
theorem mw_X6_at : qv_mw yX6_at cX6_at 2 (some .int) := ⟨qv_gin 643 (by decide +kernel) (by decide +kernel), qv_gin 72 (by decide +kernel) (by decide +kernel), by decide +kernel, by decide +kernel⟩
theorem lk_RX9_213 : Cond.methodLink RX9 213 yX6_at ∈ qv_gt := qv_gin 640 (by decide +kernel) (by decide +kernel)
theorem im_X6_at : Cond.instanceMethod yX6_at ∈ qv_gt := qv_gin 641 (by decide +kernel) (by decide +kernel)
theorem se_X6_at : Cond.selects yX6_at.cls yX6_at yX6_at ∈ qv_gt := qv_gin 642 (by decide +kernel) (by decide +kernel)
theorem pd_X6_at : (parseMethodDescriptor yX6_at.desc).map (fun d => d.parameters.length) = some 1 := by decide +kernel
theorem mw_X6_cut : qv_mw yX6_cut cX6_cut 4 none := ⟨qv_gin 648 (by decide +kernel) (by decide +kernel), qv_gin 72 (by decide +kernel) (by decide +kernel), by decide +kernel, by decide +kernel⟩
theorem lk_RX9_216 : Cond.methodLink RX9 216 yX6_cut ∈ qv_gt := qv_gin 645 (by decide +kernel) (by decide +kernel)
theorem im_X6_cut : Cond.instanceMethod yX6_cut ∈ qv_gt := qv_gin 646 (by decide +kernel) (by decide +kernel)
theorem se_X6_cut : Cond.selects yX6_cut.cls yX6_cut yX6_cut ∈ qv_gt := qv_gin 647 (by decide +kernel) (by decide +kernel)
theorem pd_X6_cut : (parseMethodDescriptor yX6_cut.desc).map (fun d => d.parameters.length) = some 2 := by decide +kernel
theorem mw_X6_costBy : qv_mw yX6_costBy cX6_costBy 4 (some .int) := ⟨qv_gin 656 (by decide +kernel) (by decide +kernel), qv_gin 72 (by decide +kernel) (by decide +kernel), by decide +kernel, by decide +kernel⟩
theorem lk_RX9_220 : Cond.methodLink RX9 220 yX6_costBy ∈ qv_gt := qv_gin 653 (by decide +kernel) (by decide +kernel)
theorem im_X6_costBy : Cond.instanceMethod yX6_costBy ∈ qv_gt := qv_gin 654 (by decide +kernel) (by decide +kernel)
theorem se_X6_costBy : Cond.selects yX6_costBy.cls yX6_costBy yX6_costBy ∈ qv_gt := qv_gin 655 (by decide +kernel) (by decide +kernel)
theorem pd_X6_costBy : (parseMethodDescriptor yX6_costBy.desc).map (fun d => d.parameters.length) = some 1 := by decide +kernel
theorem fw_RX7_39 : qv_fw RX7 39 6 1 := ⟨RX6, TX6, 2, rfl, by decide, gl_X6, qv_gin 141 (by decide +kernel) (by decide +kernel), rfl⟩
theorem lk_RX7_44 : Cond.methodLink RX7 44 Lib.Math.min.name ∈ qv_gt := qv_gin 665 (by decide +kernel) (by decide +kernel)
theorem lk_RX7_49 : Cond.methodLink RX7 49 Lib.Math.max.name ∈ qv_gt := qv_gin 666 (by decide +kernel) (by decide +kernel)
theorem lk_RX7_52 : Cond.methodLink RX7 52 yX6_at ∈ qv_gt := qv_gin 667 (by decide +kernel) (by decide +kernel)
theorem lk_RX7_56 : Cond.methodLink RX7 56 yX7_applyBehind ∈ qv_gt := qv_gin 668 (by decide +kernel) (by decide +kernel)
theorem mw_X7_applyRow : qv_mw yX7_applyRow cX7_applyRow 6 none := ⟨qv_gin 664 (by decide +kernel) (by decide +kernel), qv_gin 71 (by decide +kernel) (by decide +kernel), by decide +kernel, by decide +kernel⟩
theorem lk_RX9_224 : Cond.methodLink RX9 224 yX7_applyRow ∈ qv_gt := qv_gin 661 (by decide +kernel) (by decide +kernel)
theorem im_X7_applyRow : Cond.instanceMethod yX7_applyRow ∈ qv_gt := qv_gin 662 (by decide +kernel) (by decide +kernel)
theorem se_X7_applyRow : Cond.selects yX7_applyRow.cls yX7_applyRow yX7_applyRow ∈ qv_gt := qv_gin 663 (by decide +kernel) (by decide +kernel)
theorem pd_X7_applyRow : (parseMethodDescriptor yX7_applyRow.desc).map (fun d => d.parameters.length) = some 3 := by decide +kernel
theorem lk_RX6_37 : Cond.methodLink RX6 37 yX6_at ∈ qv_gt := qv_gin 685 (by decide +kernel) (by decide +kernel)
theorem mw_X6_goesOut : qv_mw yX6_goesOut cX6_goesOut 3 (some .boolean) := ⟨qv_gin 688 (by decide +kernel) (by decide +kernel), qv_gin 72 (by decide +kernel) (by decide +kernel), by decide +kernel, by decide +kernel⟩
theorem lk_RX6_41 : Cond.methodLink RX6 41 yX6_goesOut ∈ qv_gt := qv_gin 686 (by decide +kernel) (by decide +kernel)
theorem st_X6_goesOut : Cond.static yX6_goesOut ∈ qv_gt := qv_gin 687 (by decide +kernel) (by decide +kernel)
theorem pd_X6_goesOut : (parseMethodDescriptor yX6_goesOut.desc).map (fun d => d.parameters.length) = some 2 := by decide +kernel
theorem mw_X6_standsEightTimes : qv_mw yX6_standsEightTimes cX6_standsEightTimes 4 (some .boolean) := ⟨qv_gin 693 (by decide +kernel) (by decide +kernel), qv_gin 72 (by decide +kernel) (by decide +kernel), by decide +kernel, by decide +kernel⟩
theorem lk_RX6_48 : Cond.methodLink RX6 48 yX6_standsEightTimes ∈ qv_gt := qv_gin 690 (by decide +kernel) (by decide +kernel)
theorem im_X6_standsEightTimes : Cond.instanceMethod yX6_standsEightTimes ∈ qv_gt := qv_gin 692 (by decide +kernel) (by decide +kernel)
theorem se_X6_standsEightTimes : Cond.selects yX6_standsEightTimes.cls yX6_standsEightTimes yX6_standsEightTimes ∈ qv_gt := qv_gin 21 (by decide +kernel) (by decide +kernel)
theorem pd_X6_standsEightTimes : (parseMethodDescriptor yX6_standsEightTimes.desc).map (fun d => d.parameters.length) = some 2 := by decide +kernel
theorem mw_X6_joinOf : qv_mw yX6_joinOf cX6_joinOf 2 (some .int) := ⟨qv_gin 696 (by decide +kernel) (by decide +kernel), qv_gin 72 (by decide +kernel) (by decide +kernel), by decide +kernel, by decide +kernel⟩
theorem lk_RX6_51 : Cond.methodLink RX6 51 yX6_joinOf ∈ qv_gt := qv_gin 694 (by decide +kernel) (by decide +kernel)
theorem st_X6_joinOf : Cond.static yX6_joinOf ∈ qv_gt := qv_gin 695 (by decide +kernel) (by decide +kernel)
theorem pd_X6_joinOf : (parseMethodDescriptor yX6_joinOf.desc).map (fun d => d.parameters.length) = some 2 := by decide +kernel
theorem lk_RX6_44 : Cond.methodLink RX6 44 yX6_cut ∈ qv_gt := qv_gin 689 (by decide +kernel) (by decide +kernel)
theorem mw_X6_shortenAt : qv_mw yX6_shortenAt cX6_shortenAt 5 (some .boolean) := ⟨qv_gin 684 (by decide +kernel) (by decide +kernel), qv_gin 72 (by decide +kernel) (by decide +kernel), by decide +kernel, by decide +kernel⟩
theorem lk_RX6_33 : Cond.methodLink RX6 33 yX6_shortenAt ∈ qv_gt := qv_gin 681 (by decide +kernel) (by decide +kernel)
theorem im_X6_shortenAt : Cond.instanceMethod yX6_shortenAt ∈ qv_gt := qv_gin 683 (by decide +kernel) (by decide +kernel)
theorem se_X6_shortenAt : Cond.selects yX6_shortenAt.cls yX6_shortenAt yX6_shortenAt ∈ qv_gt := qv_gin 20 (by decide +kernel) (by decide +kernel)
theorem pd_X6_shortenAt : (parseMethodDescriptor yX6_shortenAt.desc).map (fun d => d.parameters.length) = some 1 := by decide +kernel
theorem mw_X6_shortenOnce : qv_mw yX6_shortenOnce cX6_shortenOnce 2 (some .boolean) := ⟨qv_gin 680 (by decide +kernel) (by decide +kernel), qv_gin 72 (by decide +kernel) (by decide +kernel), by decide +kernel, by decide +kernel⟩
theorem lk_RX6_29 : Cond.methodLink RX6 29 yX6_shortenOnce ∈ qv_gt := qv_gin 677 (by decide +kernel) (by decide +kernel)
theorem im_X6_shortenOnce : Cond.instanceMethod yX6_shortenOnce ∈ qv_gt := qv_gin 679 (by decide +kernel) (by decide +kernel)
theorem se_X6_shortenOnce : Cond.selects yX6_shortenOnce.cls yX6_shortenOnce yX6_shortenOnce ∈ qv_gt := qv_gin 19 (by decide +kernel) (by decide +kernel)
theorem pd_X6_shortenOnce : (parseMethodDescriptor yX6_shortenOnce.desc).map (fun d => d.parameters.length) = some 0 := by decide +kernel
theorem mw_X6_shorten : qv_mw yX6_shorten cX6_shorten 3 none := ⟨qv_gin 676 (by decide +kernel) (by decide +kernel), qv_gin 72 (by decide +kernel) (by decide +kernel), by decide +kernel, by decide +kernel⟩
theorem lk_RX9_228 : Cond.methodLink RX9 228 yX6_shorten ∈ qv_gt := qv_gin 673 (by decide +kernel) (by decide +kernel)
theorem im_X6_shorten : Cond.instanceMethod yX6_shorten ∈ qv_gt := qv_gin 674 (by decide +kernel) (by decide +kernel)
theorem se_X6_shorten : Cond.selects yX6_shorten.cls yX6_shorten yX6_shorten ∈ qv_gt := qv_gin 675 (by decide +kernel) (by decide +kernel)
theorem pd_X6_shorten : (parseMethodDescriptor yX6_shorten.desc).map (fun d => d.parameters.length) = some 0 := by decide +kernel
theorem gl_X4 : ∀ w ∈ u_ws RX4 TX4 3, w ∈ qv_gt := qv_all [309, 311, 313] (by decide +kernel) (by decide +kernel)
theorem fw_RX4_18 : qv_fw RX4 18 4 1 := ⟨RX4, TX4, 3, rfl, by decide, gl_X4, qv_gin 307 (by decide +kernel) (by decide +kernel), rfl⟩
theorem lk_RX4_60 : Cond.methodLink RX4 60 yX7_applyAhead ∈ qv_gt := qv_gin 715 (by decide +kernel) (by decide +kernel)
theorem fw_RX4_12 : qv_fw RX4 12 4 0 := ⟨RX4, TX4, 3, rfl, by decide, gl_X4, qv_gin 306 (by decide +kernel) (by decide +kernel), rfl⟩
theorem lk_RX4_34 : Cond.methodLink RX4 34 yX7_makeCopy ∈ qv_gt := qv_gin 705 (by decide +kernel) (by decide +kernel)
theorem mw_X4_takeAway : qv_mw yX4_takeAway cX4_takeAway 2 none := ⟨qv_gin 714 (by decide +kernel) (by decide +kernel), qv_gin 78 (by decide +kernel) (by decide +kernel), by decide +kernel, by decide +kernel⟩
theorem lk_RX4_56 : Cond.methodLink RX4 56 yX4_takeAway ∈ qv_gt := qv_gin 711 (by decide +kernel) (by decide +kernel)
theorem im_X4_takeAway : Cond.instanceMethod yX4_takeAway ∈ qv_gt := qv_gin 713 (by decide +kernel) (by decide +kernel)
theorem se_X4_takeAway : Cond.selects yX4_takeAway.cls yX4_takeAway yX4_takeAway ∈ qv_gt := qv_gin 23 (by decide +kernel) (by decide +kernel)
theorem pd_X4_takeAway : (parseMethodDescriptor yX4_takeAway.desc).map (fun d => d.parameters.length) = some 1 := by decide +kernel
theorem fw_RX4_24 : qv_fw RX4 24 4 2 := ⟨RX4, TX4, 3, rfl, by decide, gl_X4, qv_gin 308 (by decide +kernel) (by decide +kernel), rfl⟩
theorem lk_RX4_38 : Cond.methodLink RX4 38 yX1_makeOf ∈ qv_gt := qv_gin 706 (by decide +kernel) (by decide +kernel)
theorem fw_RX4_41 : qv_fw RX4 41 1 2 := ⟨RX1, TX1, 6, rfl, by decide, gl_X1, qv_gin 278 (by decide +kernel) (by decide +kernel), rfl⟩
theorem lk_RX4_63 : Cond.methodLink RX4 63 yX6_add ∈ qv_gt := qv_gin 719 (by decide +kernel) (by decide +kernel)
theorem lk_RX4_67 : Cond.methodLink RX4 67 yX2_find ∈ qv_gt := qv_gin 724 (by decide +kernel) (by decide +kernel)
theorem lk_RX4_73 : Cond.methodLink RX4 73 yX2_lengthOf ∈ qv_gt := qv_gin 725 (by decide +kernel) (by decide +kernel)
theorem lk_RX4_76 : Cond.methodLink RX4 76 yX2_firstGateOf ∈ qv_gt := qv_gin 726 (by decide +kernel) (by decide +kernel)
theorem lk_RX4_79 : Cond.methodLink RX4 79 yX2_restOf ∈ qv_gt := qv_gin 727 (by decide +kernel) (by decide +kernel)
theorem pw_RX4_28 : qv_pw RX4 28 6 1 false .int := ⟨RX6, TX6, 2, tyX6, rfl, by decide, gl_X6, qv_gin 138 (by decide +kernel) (by decide +kernel), rfl, tyX6_ok, nmX6, rfl, tyX6_ok 1 (by decide)⟩
theorem mw_X4_addCheapest : qv_mw yX4_addCheapest cX4_addCheapest 6 (some .boolean) := ⟨qv_gin 723 (by decide +kernel) (by decide +kernel), qv_gin 78 (by decide +kernel) (by decide +kernel), by decide +kernel, by decide +kernel⟩
theorem lk_RX4_52 : Cond.methodLink RX4 52 yX4_addCheapest ∈ qv_gt := qv_gin 720 (by decide +kernel) (by decide +kernel)
theorem im_X4_addCheapest : Cond.instanceMethod yX4_addCheapest ∈ qv_gt := qv_gin 722 (by decide +kernel) (by decide +kernel)
theorem se_X4_addCheapest : Cond.selects yX4_addCheapest.cls yX4_addCheapest yX4_addCheapest ∈ qv_gt := qv_gin 24 (by decide +kernel) (by decide +kernel)
theorem pd_X4_addCheapest : (parseMethodDescriptor yX4_addCheapest.desc).map (fun d => d.parameters.length) = some 2 := by decide +kernel
theorem mw_X4_findSyllable : qv_mw yX4_findSyllable cX4_findSyllable 3 (some .int) := ⟨qv_gin 710 (by decide +kernel) (by decide +kernel), qv_gin 78 (by decide +kernel) (by decide +kernel), by decide +kernel, by decide +kernel⟩
theorem lk_RX4_44 : Cond.methodLink RX4 44 yX4_findSyllable ∈ qv_gt := qv_gin 707 (by decide +kernel) (by decide +kernel)
theorem im_X4_findSyllable : Cond.instanceMethod yX4_findSyllable ∈ qv_gt := qv_gin 709 (by decide +kernel) (by decide +kernel)
theorem se_X4_findSyllable : Cond.selects yX4_findSyllable.cls yX4_findSyllable yX4_findSyllable ∈ qv_gt := qv_gin 22 (by decide +kernel) (by decide +kernel)
theorem pd_X4_findSyllable : (parseMethodDescriptor yX4_findSyllable.desc).map (fun d => d.parameters.length) = some 1 := by decide +kernel
theorem mw_X4_addSyllable : qv_mw yX4_addSyllable cX4_addSyllable 3 (some .boolean) := ⟨qv_gin 718 (by decide +kernel) (by decide +kernel), qv_gin 78 (by decide +kernel) (by decide +kernel), by decide +kernel, by decide +kernel⟩
theorem lk_RX4_48 : Cond.methodLink RX4 48 yX4_addSyllable ∈ qv_gt := qv_gin 716 (by decide +kernel) (by decide +kernel)
theorem st_X4_addSyllable : Cond.static yX4_addSyllable ∈ qv_gt := qv_gin 717 (by decide +kernel) (by decide +kernel)
theorem pd_X4_addSyllable : (parseMethodDescriptor yX4_addSyllable.desc).map (fun d => d.parameters.length) = some 2 := by decide +kernel
theorem fw_RX9_63 : qv_fw RX9 63 9 8 := ⟨RX9, TX9, 14, rfl, by decide, gl_X9, qv_gin 328 (by decide +kernel) (by decide +kernel), rfl⟩
theorem mw_X4_form : qv_mw yX4_form cX4_form 7 (some .boolean) := ⟨qv_gin 704 (by decide +kernel) (by decide +kernel), qv_gin 78 (by decide +kernel) (by decide +kernel), by decide +kernel, by decide +kernel⟩
theorem lk_RX9_231 : Cond.methodLink RX9 231 yX4_form ∈ qv_gt := qv_gin 701 (by decide +kernel) (by decide +kernel)
theorem im_X4_form : Cond.instanceMethod yX4_form ∈ qv_gt := qv_gin 702 (by decide +kernel) (by decide +kernel)
theorem se_X4_form : Cond.selects yX4_form.cls yX4_form yX4_form ∈ qv_gt := qv_gin 703 (by decide +kernel) (by decide +kernel)
theorem pd_X4_form : (parseMethodDescriptor yX4_form.desc).map (fun d => d.parameters.length) = some 3 := by decide +kernel
theorem fw_RX9_81 : qv_fw RX9 81 9 11 := ⟨RX9, TX9, 14, rfl, by decide, gl_X9, qv_gin 331 (by decide +kernel) (by decide +kernel), rfl⟩
theorem fw_RX9_84 : qv_fw RX9 84 9 12 := ⟨RX9, TX9, 14, rfl, by decide, gl_X9, qv_gin 332 (by decide +kernel) (by decide +kernel), rfl⟩
theorem fw_RX9_87 : qv_fw RX9 87 9 13 := ⟨RX9, TX9, 14, rfl, by decide, gl_X9, qv_gin 333 (by decide +kernel) (by decide +kernel), rfl⟩
theorem lk_RX9_235 : Cond.methodLink RX9 235 Lib.Math.max.name ∈ qv_gt := qv_gin 736 (by decide +kernel) (by decide +kernel)
theorem fw_RX9_240 : qv_fw RX9 240 3 3 := ⟨RX3, TX3, 4, rfl, by decide, gl_X3, qv_gin 173 (by decide +kernel) (by decide +kernel), rfl⟩
theorem mw_X3_giveBack : qv_mw yX3_giveBack cX3_giveBack 2 none := ⟨qv_gin 744 (by decide +kernel) (by decide +kernel), qv_gin 73 (by decide +kernel) (by decide +kernel), by decide +kernel, by decide +kernel⟩
theorem lk_RX9_241 : Cond.methodLink RX9 241 yX3_giveBack ∈ qv_gt := qv_gin 741 (by decide +kernel) (by decide +kernel)
theorem im_X3_giveBack : Cond.instanceMethod yX3_giveBack ∈ qv_gt := qv_gin 742 (by decide +kernel) (by decide +kernel)
theorem se_X3_giveBack : Cond.selects yX3_giveBack.cls yX3_giveBack yX3_giveBack ∈ qv_gt := qv_gin 743 (by decide +kernel) (by decide +kernel)
theorem pd_X3_giveBack : (parseMethodDescriptor yX3_giveBack.desc).map (fun d => d.parameters.length) = some 1 := by decide +kernel
theorem gl_X8 : ∀ w ∈ u_ws RX8 TX8 2, w ∈ qv_gt := qv_all [193, 195] (by decide +kernel) (by decide +kernel)
theorem fw_RX8_15 : qv_fw RX8 15 8 1 := ⟨RX8, TX8, 2, rfl, by decide, gl_X8, qv_gin 190 (by decide +kernel) (by decide +kernel), rfl⟩
theorem fw_RX8_9 : qv_fw RX8 9 8 0 := ⟨RX8, TX8, 2, rfl, by decide, gl_X8, qv_gin 189 (by decide +kernel) (by decide +kernel), rfl⟩
theorem pw_RX8_15 : qv_pw RX8 15 8 1 false .int := ⟨RX8, TX8, 2, tyX8, rfl, by decide, gl_X8, qv_gin 190 (by decide +kernel) (by decide +kernel), rfl, tyX8_ok, nmX8, rfl, tyX8_ok 1 (by decide)⟩
theorem fw_RX9_35 : qv_fw RX9 35 9 4 := ⟨RX9, TX9, 14, rfl, by decide, gl_X9, qv_gin 324 (by decide +kernel) (by decide +kernel), rfl⟩
theorem mw_X8_add : qv_mw yX8_add cX8_add 2 (some .boolean) := ⟨qv_gin 752 (by decide +kernel) (by decide +kernel), qv_gin 74 (by decide +kernel) (by decide +kernel), by decide +kernel, by decide +kernel⟩
theorem lk_RX9_245 : Cond.methodLink RX9 245 yX8_add ∈ qv_gt := qv_gin 749 (by decide +kernel) (by decide +kernel)
theorem im_X8_add : Cond.instanceMethod yX8_add ∈ qv_gt := qv_gin 750 (by decide +kernel) (by decide +kernel)
theorem se_X8_add : Cond.selects yX8_add.cls yX8_add yX8_add ∈ qv_gt := qv_gin 751 (by decide +kernel) (by decide +kernel)
theorem pd_X8_add : (parseMethodDescriptor yX8_add.desc).map (fun d => d.parameters.length) = some 1 := by decide +kernel
theorem fw_RX9_246 : qv_fw RX9 246 8 1 := ⟨RX8, TX8, 2, rfl, by decide, gl_X8, qv_gin 192 (by decide +kernel) (by decide +kernel), rfl⟩
theorem pw_RX9_246 : qv_pw RX9 246 8 1 false .int := ⟨RX8, TX8, 2, tyX8, rfl, by decide, gl_X8, qv_gin 192 (by decide +kernel) (by decide +kernel), rfl, tyX8_ok, nmX8, rfl, tyX8_ok 1 (by decide)⟩
theorem ln_RX8_19 : Cond.methodLinkNest RX8 19 yX9_isBelow "RootGates" ∈ qv_nst := List.mem_of_getElem? (i := 11) (by decide +kernel)
theorem mw_X8_at : qv_mw yX8_at cX8_at 2 (some .int) := ⟨qv_gin 775 (by decide +kernel) (by decide +kernel), qv_gin 74 (by decide +kernel) (by decide +kernel), by decide +kernel, by decide +kernel⟩
theorem lk_RX8_23 : Cond.methodLink RX8 23 yX8_at ∈ qv_gt := qv_gin 772 (by decide +kernel) (by decide +kernel)
theorem im_X8_at : Cond.instanceMethod yX8_at ∈ qv_gt := qv_gin 773 (by decide +kernel) (by decide +kernel)
theorem se_X8_at : Cond.selects yX8_at.cls yX8_at yX8_at ∈ qv_gt := qv_gin 774 (by decide +kernel) (by decide +kernel)
theorem pd_X8_at : (parseMethodDescriptor yX8_at.desc).map (fun d => d.parameters.length) = some 1 := by decide +kernel
theorem mw_X9_gateOfLetter : qv_mw yX9_gateOfLetter cX9_gateOfLetter 1 (some .int) := ⟨qv_gin 767 (by decide +kernel) (by decide +kernel), qv_gin 69 (by decide +kernel) (by decide +kernel), by decide +kernel, by decide +kernel⟩
theorem ln_RX8_27 : Cond.methodLinkNest RX8 27 yX9_gateOfLetter "RootGates" ∈ qv_nst := List.mem_of_getElem? (i := 10) (by decide +kernel)
theorem st_X9_gateOfLetter : Cond.static yX9_gateOfLetter ∈ qv_gt := qv_gin 766 (by decide +kernel) (by decide +kernel)
theorem pd_X9_gateOfLetter : (parseMethodDescriptor yX9_gateOfLetter.desc).map (fun d => d.parameters.length) = some 1 := by decide +kernel
theorem mw_X8_figureAt : qv_mw yX8_figureAt cX8_figureAt 3 (some .int) := ⟨qv_gin 771 (by decide +kernel) (by decide +kernel), qv_gin 74 (by decide +kernel) (by decide +kernel), by decide +kernel, by decide +kernel⟩
theorem lk_RX8_30 : Cond.methodLink RX8 30 yX8_figureAt ∈ qv_gt := qv_gin 768 (by decide +kernel) (by decide +kernel)
theorem im_X8_figureAt : Cond.instanceMethod yX8_figureAt ∈ qv_gt := qv_gin 769 (by decide +kernel) (by decide +kernel)
theorem se_X8_figureAt : Cond.selects yX8_figureAt.cls yX8_figureAt yX8_figureAt ∈ qv_gt := qv_gin 770 (by decide +kernel) (by decide +kernel)
theorem pd_X8_figureAt : (parseMethodDescriptor yX8_figureAt.desc).map (fun d => d.parameters.length) = some 1 := by decide +kernel
theorem gl_X5 : ∀ w ∈ u_ws RX5 TX5 7, w ∈ qv_gt := qv_all [211, 213, 215, 217, 219, 221, 223] (by decide +kernel) (by decide +kernel)
theorem fw_RX5_18 : qv_fw RX5 18 5 2 := ⟨RX5, TX5, 7, rfl, by decide, gl_X5, qv_gin 206 (by decide +kernel) (by decide +kernel), rfl⟩
theorem fw_RX5_28 : qv_fw RX5 28 5 5 := ⟨RX5, TX5, 7, rfl, by decide, gl_X5, qv_gin 209 (by decide +kernel) (by decide +kernel), rfl⟩
theorem fw_RX5_24 : qv_fw RX5 24 5 4 := ⟨RX5, TX5, 7, rfl, by decide, gl_X5, qv_gin 208 (by decide +kernel) (by decide +kernel), rfl⟩
theorem mw_X5_isHeld : qv_mw yX5_isHeld cX5_isHeld 3 (some .boolean) := ⟨qv_gin 794 (by decide +kernel) (by decide +kernel), qv_gin 75 (by decide +kernel) (by decide +kernel), by decide +kernel, by decide +kernel⟩
theorem lk_RX5_68 : Cond.methodLink RX5 68 yX5_isHeld ∈ qv_gt := qv_gin 791 (by decide +kernel) (by decide +kernel)
theorem im_X5_isHeld : Cond.instanceMethod yX5_isHeld ∈ qv_gt := qv_gin 793 (by decide +kernel) (by decide +kernel)
theorem se_X5_isHeld : Cond.selects yX5_isHeld.cls yX5_isHeld yX5_isHeld ∈ qv_gt := qv_gin 27 (by decide +kernel) (by decide +kernel)
theorem pd_X5_isHeld : (parseMethodDescriptor yX5_isHeld.desc).map (fun d => d.parameters.length) = some 2 := by decide +kernel
theorem pw_RX5_24 : qv_pw RX5 24 5 4 false .int := ⟨RX5, TX5, 7, tyX5, rfl, by decide, gl_X5, qv_gin 208 (by decide +kernel) (by decide +kernel), rfl, tyX5_ok, nmX5, rfl, tyX5_ok 4 (by decide)⟩
theorem fw_RX5_15 : qv_fw RX5 15 5 1 := ⟨RX5, TX5, 7, rfl, by decide, gl_X5, qv_gin 205 (by decide +kernel) (by decide +kernel), rfl⟩
theorem mw_X5_widthOf : qv_mw yX5_widthOf cX5_widthOf 1 (some .int) := ⟨qv_gin 805 (by decide +kernel) (by decide +kernel), qv_gin 75 (by decide +kernel) (by decide +kernel), by decide +kernel, by decide +kernel⟩
theorem lk_RX5_78 : Cond.methodLink RX5 78 yX5_widthOf ∈ qv_gt := qv_gin 803 (by decide +kernel) (by decide +kernel)
theorem st_X5_widthOf : Cond.static yX5_widthOf ∈ qv_gt := qv_gin 804 (by decide +kernel) (by decide +kernel)
theorem pd_X5_widthOf : (parseMethodDescriptor yX5_widthOf.desc).map (fun d => d.parameters.length) = some 1 := by decide +kernel
theorem fw_RX5_9 : qv_fw RX5 9 5 0 := ⟨RX5, TX5, 7, rfl, by decide, gl_X5, qv_gin 204 (by decide +kernel) (by decide +kernel), rfl⟩
theorem mw_X5_turnedGate : qv_mw yX5_turnedGate cX5_turnedGate 2 (some .int) := ⟨qv_gin 808 (by decide +kernel) (by decide +kernel), qv_gin 75 (by decide +kernel) (by decide +kernel), by decide +kernel, by decide +kernel⟩
theorem lk_RX5_81 : Cond.methodLink RX5 81 yX5_turnedGate ∈ qv_gt := qv_gin 806 (by decide +kernel) (by decide +kernel)
theorem st_X5_turnedGate : Cond.static yX5_turnedGate ∈ qv_gt := qv_gin 807 (by decide +kernel) (by decide +kernel)
theorem pd_X5_turnedGate : (parseMethodDescriptor yX5_turnedGate.desc).map (fun d => d.parameters.length) = some 2 := by decide +kernel
theorem fw_RX5_31 : qv_fw RX5 31 5 6 := ⟨RX5, TX5, 7, rfl, by decide, gl_X5, qv_gin 210 (by decide +kernel) (by decide +kernel), rfl⟩
theorem pw_RX5_31 : qv_pw RX5 31 5 6 false .int := ⟨RX5, TX5, 7, tyX5, rfl, by decide, gl_X5, qv_gin 210 (by decide +kernel) (by decide +kernel), rfl, tyX5_ok, nmX5, rfl, tyX5_ok 6 (by decide)⟩
theorem mw_X5_turnOnce : qv_mw yX5_turnOnce cX5_turnOnce 7 (some .boolean) := ⟨qv_gin 802 (by decide +kernel) (by decide +kernel), qv_gin 75 (by decide +kernel) (by decide +kernel), by decide +kernel, by decide +kernel⟩
theorem lk_RX5_75 : Cond.methodLink RX5 75 yX5_turnOnce ∈ qv_gt := qv_gin 799 (by decide +kernel) (by decide +kernel)
theorem im_X5_turnOnce : Cond.instanceMethod yX5_turnOnce ∈ qv_gt := qv_gin 801 (by decide +kernel) (by decide +kernel)
theorem se_X5_turnOnce : Cond.selects yX5_turnOnce.cls yX5_turnOnce yX5_turnOnce ∈ qv_gt := qv_gin 29 (by decide +kernel) (by decide +kernel)
theorem pd_X5_turnOnce : (parseMethodDescriptor yX5_turnOnce.desc).map (fun d => d.parameters.length) = some 1 := by decide +kernel
theorem mw_X5_turnItem : qv_mw yX5_turnItem cX5_turnItem 4 (some .boolean) := ⟨qv_gin 798 (by decide +kernel) (by decide +kernel), qv_gin 75 (by decide +kernel) (by decide +kernel), by decide +kernel, by decide +kernel⟩
theorem lk_RX5_72 : Cond.methodLink RX5 72 yX5_turnItem ∈ qv_gt := qv_gin 795 (by decide +kernel) (by decide +kernel)
theorem im_X5_turnItem : Cond.instanceMethod yX5_turnItem ∈ qv_gt := qv_gin 797 (by decide +kernel) (by decide +kernel)
theorem se_X5_turnItem : Cond.selects yX5_turnItem.cls yX5_turnItem yX5_turnItem ∈ qv_gt := qv_gin 28 (by decide +kernel) (by decide +kernel)
theorem pd_X5_turnItem : (parseMethodDescriptor yX5_turnItem.desc).map (fun d => d.parameters.length) = some 1 := by decide +kernel
theorem fw_RX5_21 : qv_fw RX5 21 5 3 := ⟨RX5, TX5, 7, rfl, by decide, gl_X5, qv_gin 207 (by decide +kernel) (by decide +kernel), rfl⟩
theorem pw_RX5_28 : qv_pw RX5 28 5 5 false .int := ⟨RX5, TX5, 7, tyX5, rfl, by decide, gl_X5, qv_gin 209 (by decide +kernel) (by decide +kernel), rfl, tyX5_ok, nmX5, rfl, tyX5_ok 5 (by decide)⟩
theorem lk_RX5_48 : Cond.methodLink RX5 48 yX8_at ∈ qv_gt := qv_gin 785 (by decide +kernel) (by decide +kernel)
theorem ln_RX5_52 : Cond.methodLinkNest RX5 52 yX9_gateOfLetter "RootGates" ∈ qv_nst := List.mem_of_getElem? (i := 12) (by decide +kernel)
theorem lk_RX5_62 : Cond.methodLink RX5 62 yX8_figureAt ∈ qv_gt := qv_gin 813 (by decide +kernel) (by decide +kernel)
theorem mw_X5_closeGroup : qv_mw yX5_closeGroup cX5_closeGroup 5 (some .boolean) := ⟨qv_gin 817 (by decide +kernel) (by decide +kernel), qv_gin 75 (by decide +kernel) (by decide +kernel), by decide +kernel, by decide +kernel⟩
theorem lk_RX5_65 : Cond.methodLink RX5 65 yX5_closeGroup ∈ qv_gt := qv_gin 814 (by decide +kernel) (by decide +kernel)
theorem im_X5_closeGroup : Cond.instanceMethod yX5_closeGroup ∈ qv_gt := qv_gin 816 (by decide +kernel) (by decide +kernel)
theorem se_X5_closeGroup : Cond.selects yX5_closeGroup.cls yX5_closeGroup yX5_closeGroup ∈ qv_gt := qv_gin 31 (by decide +kernel) (by decide +kernel)
theorem pd_X5_closeGroup : (parseMethodDescriptor yX5_closeGroup.desc).map (fun d => d.parameters.length) = some 1 := by decide +kernel
theorem mw_X5_openGroup : qv_mw yX5_openGroup cX5_openGroup 1 (some .boolean) := ⟨qv_gin 812 (by decide +kernel) (by decide +kernel), qv_gin 75 (by decide +kernel) (by decide +kernel), by decide +kernel, by decide +kernel⟩
theorem lk_RX5_58 : Cond.methodLink RX5 58 yX5_openGroup ∈ qv_gt := qv_gin 809 (by decide +kernel) (by decide +kernel)
theorem im_X5_openGroup : Cond.instanceMethod yX5_openGroup ∈ qv_gt := qv_gin 811 (by decide +kernel) (by decide +kernel)
theorem se_X5_openGroup : Cond.selects yX5_openGroup.cls yX5_openGroup yX5_openGroup ∈ qv_gt := qv_gin 30 (by decide +kernel) (by decide +kernel)
theorem pd_X5_openGroup : (parseMethodDescriptor yX5_openGroup.desc).map (fun d => d.parameters.length) = some 0 := by decide +kernel
theorem mw_X5_readGate : qv_mw yX5_readGate cX5_readGate 3 (some .boolean) := ⟨qv_gin 790 (by decide +kernel) (by decide +kernel), qv_gin 75 (by decide +kernel) (by decide +kernel), by decide +kernel, by decide +kernel⟩
theorem lk_RX5_55 : Cond.methodLink RX5 55 yX5_readGate ∈ qv_gt := qv_gin 787 (by decide +kernel) (by decide +kernel)
theorem im_X5_readGate : Cond.instanceMethod yX5_readGate ∈ qv_gt := qv_gin 789 (by decide +kernel) (by decide +kernel)
theorem se_X5_readGate : Cond.selects yX5_readGate.cls yX5_readGate yX5_readGate ∈ qv_gt := qv_gin 26 (by decide +kernel) (by decide +kernel)
theorem pd_X5_readGate : (parseMethodDescriptor yX5_readGate.desc).map (fun d => d.parameters.length) = some 1 := by decide +kernel
theorem pw_RX5_41 : qv_pw RX5 41 6 1 false .int := ⟨RX6, TX6, 2, tyX6, rfl, by decide, gl_X6, qv_gin 139 (by decide +kernel) (by decide +kernel), rfl, tyX6_ok, nmX6, rfl, tyX6_ok 1 (by decide)⟩
theorem lk_RX5_44 : Cond.methodLink RX5 44 yX6_add ∈ qv_gt := qv_gin 818 (by decide +kernel) (by decide +kernel)
theorem fw_RX5_34 : qv_fw RX5 34 8 1 := ⟨RX8, TX8, 2, rfl, by decide, gl_X8, qv_gin 191 (by decide +kernel) (by decide +kernel), rfl⟩
theorem mw_X5_readByte : qv_mw yX5_readByte cX5_readByte 6 (some .boolean) := ⟨qv_gin 784 (by decide +kernel) (by decide +kernel), qv_gin 75 (by decide +kernel) (by decide +kernel), by decide +kernel, by decide +kernel⟩
theorem lk_RX5_37 : Cond.methodLink RX5 37 yX5_readByte ∈ qv_gt := qv_gin 781 (by decide +kernel) (by decide +kernel)
theorem im_X5_readByte : Cond.instanceMethod yX5_readByte ∈ qv_gt := qv_gin 783 (by decide +kernel) (by decide +kernel)
theorem se_X5_readByte : Cond.selects yX5_readByte.cls yX5_readByte yX5_readByte ∈ qv_gt := qv_gin 25 (by decide +kernel) (by decide +kernel)
theorem pd_X5_readByte : (parseMethodDescriptor yX5_readByte.desc).map (fun d => d.parameters.length) = some 2 := by decide +kernel
theorem mw_X8_findFault : qv_mw yX8_findFault cX8_findFault 5 (some .int) := ⟨qv_gin 764 (by decide +kernel) (by decide +kernel), qv_gin 74 (by decide +kernel) (by decide +kernel), by decide +kernel, by decide +kernel⟩
theorem lk_RX9_247 : Cond.methodLink RX9 247 yX8_findFault ∈ qv_gt := qv_gin 761 (by decide +kernel) (by decide +kernel)
theorem im_X8_findFault : Cond.instanceMethod yX8_findFault ∈ qv_gt := qv_gin 762 (by decide +kernel) (by decide +kernel)
theorem se_X8_findFault : Cond.selects yX8_findFault.cls yX8_findFault yX8_findFault ∈ qv_gt := qv_gin 763 (by decide +kernel) (by decide +kernel)
theorem pd_X8_findFault : (parseMethodDescriptor yX8_findFault.desc).map (fun d => d.parameters.length) = some 0 := by decide +kernel
theorem fw_RX9_42 : qv_fw RX9 42 9 5 := ⟨RX9, TX9, 14, rfl, by decide, gl_X9, qv_gin 325 (by decide +kernel) (by decide +kernel), rfl⟩
theorem mw_X5_read : qv_mw yX5_read cX5_read 4 (some .boolean) := ⟨qv_gin 780 (by decide +kernel) (by decide +kernel), qv_gin 75 (by decide +kernel) (by decide +kernel), by decide +kernel, by decide +kernel⟩
theorem lk_RX9_251 : Cond.methodLink RX9 251 yX5_read ∈ qv_gt := qv_gin 777 (by decide +kernel) (by decide +kernel)
theorem im_X5_read : Cond.instanceMethod yX5_read ∈ qv_gt := qv_gin 778 (by decide +kernel) (by decide +kernel)
theorem se_X5_read : Cond.selects yX5_read.cls yX5_read yX5_read ∈ qv_gt := qv_gin 779 (by decide +kernel) (by decide +kernel)
theorem pd_X5_read : (parseMethodDescriptor yX5_read.desc).map (fun d => d.parameters.length) = some 2 := by decide +kernel
theorem fw_RX0_23 : qv_fw RX0 23 0 2 := ⟨RX0, TX0, 3, rfl, by decide, gl_X0, qv_gin 152 (by decide +kernel) (by decide +kernel), rfl⟩
theorem lk_RX0_36 : Cond.methodLink RX0 36 arraycopyName ∈ qv_gt := qv_gin 829 (by decide +kernel) (by decide +kernel)
theorem fw_RX0_19 : qv_fw RX0 19 0 1 := ⟨RX0, TX0, 3, rfl, by decide, gl_X0, qv_gin 150 (by decide +kernel) (by decide +kernel), rfl⟩
theorem lk_RX0_33 : Cond.methodLink RX0 33 yX6_makeCopy ∈ qv_gt := qv_gin 828 (by decide +kernel) (by decide +kernel)
theorem fw_RX0_11 : qv_fw RX0 11 0 0 := ⟨RX0, TX0, 3, rfl, by decide, gl_X0, qv_gin 148 (by decide +kernel) (by decide +kernel), rfl⟩
theorem lk_RX0_29 : Cond.methodLink RX0 29 yX7_makeCopy ∈ qv_gt := qv_gin 827 (by decide +kernel) (by decide +kernel)
theorem fw_RX0_42 : qv_fw RX0 42 6 1 := ⟨RX6, TX6, 2, rfl, by decide, gl_X6, qv_gin 140 (by decide +kernel) (by decide +kernel), rfl⟩
theorem fw_RX9_18 : qv_fw RX9 18 9 1 := ⟨RX9, TX9, 14, rfl, by decide, gl_X9, qv_gin 321 (by decide +kernel) (by decide +kernel), rfl⟩
theorem mw_X0_makeCopy : qv_mw yX0_makeCopy cX0_makeCopy 3 none := ⟨qv_gin 826 (by decide +kernel) (by decide +kernel), qv_gin 70 (by decide +kernel) (by decide +kernel), by decide +kernel, by decide +kernel⟩
theorem lk_RX9_255 : Cond.methodLink RX9 255 yX0_makeCopy ∈ qv_gt := qv_gin 823 (by decide +kernel) (by decide +kernel)
theorem im_X0_makeCopy : Cond.instanceMethod yX0_makeCopy ∈ qv_gt := qv_gin 824 (by decide +kernel) (by decide +kernel)
theorem se_X0_makeCopy : Cond.selects yX0_makeCopy.cls yX0_makeCopy yX0_makeCopy ∈ qv_gt := qv_gin 825 (by decide +kernel) (by decide +kernel)
theorem pd_X0_makeCopy : (parseMethodDescriptor yX0_makeCopy.desc).map (fun d => d.parameters.length) = some 1 := by decide +kernel
theorem pw_RX9_21 : qv_pw RX9 21 9 2 false .boolean := ⟨RX9, TX9, 14, tyX9, rfl, by decide, gl_X9, qv_gin 322 (by decide +kernel) (by decide +kernel), rfl, tyX9_ok, nmX9, rfl, tyX9_ok 2 (by decide)⟩
theorem mw_X0_countGates : qv_mw yX0_countGates cX0_countGates 6 (some .int) := ⟨qv_gin 833 (by decide +kernel) (by decide +kernel), qv_gin 70 (by decide +kernel) (by decide +kernel), by decide +kernel, by decide +kernel⟩
theorem lk_RX9_258 : Cond.methodLink RX9 258 yX0_countGates ∈ qv_gt := qv_gin 830 (by decide +kernel) (by decide +kernel)
theorem im_X0_countGates : Cond.instanceMethod yX0_countGates ∈ qv_gt := qv_gin 831 (by decide +kernel) (by decide +kernel)
theorem se_X0_countGates : Cond.selects yX0_countGates.cls yX0_countGates yX0_countGates ∈ qv_gt := qv_gin 832 (by decide +kernel) (by decide +kernel)
theorem pd_X0_countGates : (parseMethodDescriptor yX0_countGates.desc).map (fun d => d.parameters.length) = some 0 := by decide +kernel
theorem fw_RX9_21 : qv_fw RX9 21 9 2 := ⟨RX9, TX9, 14, rfl, by decide, gl_X9, qv_gin 322 (by decide +kernel) (by decide +kernel), rfl⟩
theorem pw_RX9_240 : qv_pw RX9 240 3 3 false .int := ⟨RX3, TX3, 4, tyX3, rfl, by decide, gl_X3, qv_gin 173 (by decide +kernel) (by decide +kernel), rfl, tyX3_ok, nmX3, rfl, tyX3_ok 3 (by decide)⟩
theorem mw_X6_countOf : qv_mw yX6_countOf cX6_countOf 4 (some .int) := ⟨qv_gin 853 (by decide +kernel) (by decide +kernel), qv_gin 72 (by decide +kernel) (by decide +kernel), by decide +kernel, by decide +kernel⟩
theorem lk_RX0_46 : Cond.methodLink RX0 46 yX6_countOf ∈ qv_gt := qv_gin 850 (by decide +kernel) (by decide +kernel)
theorem im_X6_countOf : Cond.instanceMethod yX6_countOf ∈ qv_gt := qv_gin 851 (by decide +kernel) (by decide +kernel)
theorem se_X6_countOf : Cond.selects yX6_countOf.cls yX6_countOf yX6_countOf ∈ qv_gt := qv_gin 852 (by decide +kernel) (by decide +kernel)
theorem pd_X6_countOf : (parseMethodDescriptor yX6_countOf.desc).map (fun d => d.parameters.length) = some 1 := by decide +kernel
theorem mw_X0_sumPrices : qv_mw yX0_sumPrices cX0_sumPrices 6 (some .int) := ⟨qv_gin 845 (by decide +kernel) (by decide +kernel), qv_gin 70 (by decide +kernel) (by decide +kernel), by decide +kernel, by decide +kernel⟩
theorem lk_RX9_261 : Cond.methodLink RX9 261 yX0_sumPrices ∈ qv_gt := qv_gin 842 (by decide +kernel) (by decide +kernel)
theorem im_X0_sumPrices : Cond.instanceMethod yX0_sumPrices ∈ qv_gt := qv_gin 843 (by decide +kernel) (by decide +kernel)
theorem se_X0_sumPrices : Cond.selects yX0_sumPrices.cls yX0_sumPrices yX0_sumPrices ∈ qv_gt := qv_gin 844 (by decide +kernel) (by decide +kernel)
theorem pd_X0_sumPrices : (parseMethodDescriptor yX0_sumPrices.desc).map (fun d => d.parameters.length) = some 0 := by decide +kernel
theorem mw_X0_countGate : qv_mw yX0_countGate cX0_countGate 7 (some .int) := ⟨qv_gin 849 (by decide +kernel) (by decide +kernel), qv_gin 70 (by decide +kernel) (by decide +kernel), by decide +kernel, by decide +kernel⟩
theorem lk_RX9_264 : Cond.methodLink RX9 264 yX0_countGate ∈ qv_gt := qv_gin 846 (by decide +kernel) (by decide +kernel)
theorem im_X0_countGate : Cond.instanceMethod yX0_countGate ∈ qv_gt := qv_gin 847 (by decide +kernel) (by decide +kernel)
theorem se_X0_countGate : Cond.selects yX0_countGate.cls yX0_countGate yX0_countGate ∈ qv_gt := qv_gin 848 (by decide +kernel) (by decide +kernel)
theorem pd_X0_countGate : (parseMethodDescriptor yX0_countGate.desc).map (fun d => d.parameters.length) = some 1 := by decide +kernel
theorem gl_X10 : ∀ w ∈ u_ws RX10 TX10 29, w ∈ qv_gt := qv_all [954, 956, 958, 960, 962, 964, 966, 968, 970, 972, 974, 976, 978, 980, 982, 984, 986, 988, 990, 992, 994, 996, 998, 1000, 1002, 1004, 1006, 1008, 1010] (by decide +kernel) (by decide +kernel)
theorem fw_RX10_11 : qv_fw RX10 11 10 0 := ⟨RX10, TX10, 29, rfl, by decide, gl_X10, qv_gin 925 (by decide +kernel) (by decide +kernel), rfl⟩
theorem mw_X10_number : qv_mw yX10_number cX10_number 6 none := ⟨qv_gin 863 (by decide +kernel) (by decide +kernel), qv_gin 79 (by decide +kernel) (by decide +kernel), by decide +kernel, by decide +kernel⟩
theorem lk_RX10_76 : Cond.methodLink RX10 76 yX10_number ∈ qv_gt := qv_gin 860 (by decide +kernel) (by decide +kernel)
theorem im_X10_number : Cond.instanceMethod yX10_number ∈ qv_gt := qv_gin 862 (by decide +kernel) (by decide +kernel)
theorem se_X10_number : Cond.selects yX10_number.cls yX10_number yX10_number ∈ qv_gt := qv_gin 32 (by decide +kernel) (by decide +kernel)
theorem pd_X10_number : (parseMethodDescriptor yX10_number.desc).map (fun d => d.parameters.length) = some 4 := by decide +kernel
theorem kl_RX10_90 : Cond.constantLong RX10 90 (-1) ∈ qv_gt := qv_gin 868 (by decide +kernel) (by decide +kernel)
theorem mw_X10_copies : qv_mw yX10_copies cX10_copies 4 none := ⟨qv_gin 872 (by decide +kernel) (by decide +kernel), qv_gin 79 (by decide +kernel) (by decide +kernel), by decide +kernel, by decide +kernel⟩
theorem lk_RX10_83 : Cond.methodLink RX10 83 yX10_copies ∈ qv_gt := qv_gin 869 (by decide +kernel) (by decide +kernel)
theorem im_X10_copies : Cond.instanceMethod yX10_copies ∈ qv_gt := qv_gin 871 (by decide +kernel) (by decide +kernel)
theorem se_X10_copies : Cond.selects yX10_copies.cls yX10_copies yX10_copies ∈ qv_gt := qv_gin 34 (by decide +kernel) (by decide +kernel)
theorem pd_X10_copies : (parseMethodDescriptor yX10_copies.desc).map (fun d => d.parameters.length) = some 2 := by decide +kernel
theorem fw_RX10_150 : qv_fw RX10 150 10 14 := ⟨RX10, TX10, 29, rfl, by decide, gl_X10, qv_gin 939 (by decide +kernel) (by decide +kernel), rfl⟩
theorem pw_RX10_150 : qv_pw RX10 150 10 14 false .int := ⟨RX10, TX10, 29, tyX10, rfl, by decide, gl_X10, qv_gin 939 (by decide +kernel) (by decide +kernel), rfl, tyX10_ok, nmX10, rfl, tyX10_ok 14 (by decide)⟩
theorem fw_RX10_15 : qv_fw RX10 15 10 1 := ⟨RX10, TX10, 29, rfl, by decide, gl_X10, qv_gin 926 (by decide +kernel) (by decide +kernel), rfl⟩
theorem mw_X10_at : qv_mw yX10_at cX10_at 4 (some .long) := ⟨qv_gin 900 (by decide +kernel) (by decide +kernel), qv_gin 79 (by decide +kernel) (by decide +kernel), by decide +kernel, by decide +kernel⟩
theorem lk_RX10_92 : Cond.methodLink RX10 92 yX10_at ∈ qv_gt := qv_gin 897 (by decide +kernel) (by decide +kernel)
theorem im_X10_at : Cond.instanceMethod yX10_at ∈ qv_gt := qv_gin 899 (by decide +kernel) (by decide +kernel)
theorem se_X10_at : Cond.selects yX10_at.cls yX10_at yX10_at ∈ qv_gt := qv_gin 41 (by decide +kernel) (by decide +kernel)
theorem pd_X10_at : (parseMethodDescriptor yX10_at.desc).map (fun d => d.parameters.length) = some 3 := by decide +kernel
theorem mw_X10_eOf : qv_mw yX10_eOf cX10_eOf 2 (some .int) := ⟨qv_gin 904 (by decide +kernel) (by decide +kernel), qv_gin 79 (by decide +kernel) (by decide +kernel), by decide +kernel, by decide +kernel⟩
theorem lk_RX10_98 : Cond.methodLink RX10 98 yX10_eOf ∈ qv_gt := qv_gin 901 (by decide +kernel) (by decide +kernel)
theorem im_X10_eOf : Cond.instanceMethod yX10_eOf ∈ qv_gt := qv_gin 903 (by decide +kernel) (by decide +kernel)
theorem se_X10_eOf : Cond.selects yX10_eOf.cls yX10_eOf yX10_eOf ∈ qv_gt := qv_gin 42 (by decide +kernel) (by decide +kernel)
theorem pd_X10_eOf : (parseMethodDescriptor yX10_eOf.desc).map (fun d => d.parameters.length) = some 1 := by decide +kernel
theorem mw_X10_adds : qv_mw yX10_adds cX10_adds 12 none := ⟨qv_gin 896 (by decide +kernel) (by decide +kernel), qv_gin 79 (by decide +kernel) (by decide +kernel), by decide +kernel, by decide +kernel⟩
theorem lk_RX10_106 : Cond.methodLink RX10 106 yX10_adds ∈ qv_gt := qv_gin 893 (by decide +kernel) (by decide +kernel)
theorem im_X10_adds : Cond.instanceMethod yX10_adds ∈ qv_gt := qv_gin 895 (by decide +kernel) (by decide +kernel)
theorem se_X10_adds : Cond.selects yX10_adds.cls yX10_adds yX10_adds ∈ qv_gt := qv_gin 40 (by decide +kernel) (by decide +kernel)
theorem pd_X10_adds : (parseMethodDescriptor yX10_adds.desc).map (fun d => d.parameters.length) = some 6 := by decide +kernel
theorem kl_RX10_96 : Cond.constantLong RX10 96 2 ∈ qv_gt := qv_gin 913 (by decide +kernel) (by decide +kernel)
theorem mw_X10_isOver : qv_mw yX10_isOver cX10_isOver 4 (some .boolean) := ⟨qv_gin 912 (by decide +kernel) (by decide +kernel), qv_gin 79 (by decide +kernel) (by decide +kernel), by decide +kernel, by decide +kernel⟩
theorem lk_RX10_102 : Cond.methodLink RX10 102 yX10_isOver ∈ qv_gt := qv_gin 909 (by decide +kernel) (by decide +kernel)
theorem im_X10_isOver : Cond.instanceMethod yX10_isOver ∈ qv_gt := qv_gin 911 (by decide +kernel) (by decide +kernel)
theorem se_X10_isOver : Cond.selects yX10_isOver.cls yX10_isOver yX10_isOver ∈ qv_gt := qv_gin 44 (by decide +kernel) (by decide +kernel)
theorem pd_X10_isOver : (parseMethodDescriptor yX10_isOver.desc).map (fun d => d.parameters.length) = some 1 := by decide +kernel
theorem mw_X10_plainly : qv_mw yX10_plainly cX10_plainly 6 none := ⟨qv_gin 892 (by decide +kernel) (by decide +kernel), qv_gin 79 (by decide +kernel) (by decide +kernel), by decide +kernel, by decide +kernel⟩
theorem lk_RX10_110 : Cond.methodLink RX10 110 yX10_plainly ∈ qv_gt := qv_gin 889 (by decide +kernel) (by decide +kernel)
theorem im_X10_plainly : Cond.instanceMethod yX10_plainly ∈ qv_gt := qv_gin 891 (by decide +kernel) (by decide +kernel)
theorem se_X10_plainly : Cond.selects yX10_plainly.cls yX10_plainly yX10_plainly ∈ qv_gt := qv_gin 39 (by decide +kernel) (by decide +kernel)
theorem pd_X10_plainly : (parseMethodDescriptor yX10_plainly.desc).map (fun d => d.parameters.length) = some 3 := by decide +kernel
theorem mw_X10_lowers : qv_mw yX10_lowers cX10_lowers 11 none := ⟨qv_gin 908 (by decide +kernel) (by decide +kernel), qv_gin 79 (by decide +kernel) (by decide +kernel), by decide +kernel, by decide +kernel⟩
theorem lk_RX10_114 : Cond.methodLink RX10 114 yX10_lowers ∈ qv_gt := qv_gin 905 (by decide +kernel) (by decide +kernel)
theorem im_X10_lowers : Cond.instanceMethod yX10_lowers ∈ qv_gt := qv_gin 907 (by decide +kernel) (by decide +kernel)
theorem se_X10_lowers : Cond.selects yX10_lowers.cls yX10_lowers yX10_lowers ∈ qv_gt := qv_gin 43 (by decide +kernel) (by decide +kernel)
theorem pd_X10_lowers : (parseMethodDescriptor yX10_lowers.desc).map (fun d => d.parameters.length) = some 1 := by decide +kernel
theorem mw_X10_saves : qv_mw yX10_saves cX10_saves 3 none := ⟨qv_gin 880 (by decide +kernel) (by decide +kernel), qv_gin 79 (by decide +kernel) (by decide +kernel), by decide +kernel, by decide +kernel⟩
theorem lk_RX10_154 : Cond.methodLink RX10 154 yX10_saves ∈ qv_gt := qv_gin 877 (by decide +kernel) (by decide +kernel)
theorem im_X10_saves : Cond.instanceMethod yX10_saves ∈ qv_gt := qv_gin 879 (by decide +kernel) (by decide +kernel)
theorem se_X10_saves : Cond.selects yX10_saves.cls yX10_saves yX10_saves ∈ qv_gt := qv_gin 36 (by decide +kernel) (by decide +kernel)
theorem pd_X10_saves : (parseMethodDescriptor yX10_saves.desc).map (fun d => d.parameters.length) = some 1 := by decide +kernel
theorem mw_X10_isClifford : qv_mw yX10_isClifford cX10_isClifford 1 (some .boolean) := ⟨qv_gin 920 (by decide +kernel) (by decide +kernel), qv_gin 79 (by decide +kernel) (by decide +kernel), by decide +kernel, by decide +kernel⟩
theorem lk_RX10_163 : Cond.methodLink RX10 163 yX10_isClifford ∈ qv_gt := qv_gin 918 (by decide +kernel) (by decide +kernel)
theorem st_X10_isClifford : Cond.static yX10_isClifford ∈ qv_gt := qv_gin 919 (by decide +kernel) (by decide +kernel)
theorem pd_X10_isClifford : (parseMethodDescriptor yX10_isClifford.desc).map (fun d => d.parameters.length) = some 1 := by decide +kernel
theorem mw_X10_loads : qv_mw yX10_loads cX10_loads 4 none := ⟨qv_gin 884 (by decide +kernel) (by decide +kernel), qv_gin 79 (by decide +kernel) (by decide +kernel), by decide +kernel, by decide +kernel⟩
theorem lk_RX10_157 : Cond.methodLink RX10 157 yX10_loads ∈ qv_gt := qv_gin 881 (by decide +kernel) (by decide +kernel)
theorem im_X10_loads : Cond.instanceMethod yX10_loads ∈ qv_gt := qv_gin 883 (by decide +kernel) (by decide +kernel)
theorem se_X10_loads : Cond.selects yX10_loads.cls yX10_loads yX10_loads ∈ qv_gt := qv_gin 37 (by decide +kernel) (by decide +kernel)
theorem pd_X10_loads : (parseMethodDescriptor yX10_loads.desc).map (fun d => d.parameters.length) = some 2 := by decide +kernel
theorem mw_X10_product : qv_mw yX10_product cX10_product 4 none := ⟨qv_gin 888 (by decide +kernel) (by decide +kernel), qv_gin 79 (by decide +kernel) (by decide +kernel), by decide +kernel, by decide +kernel⟩
theorem lk_RX10_132 : Cond.methodLink RX10 132 yX10_product ∈ qv_gt := qv_gin 885 (by decide +kernel) (by decide +kernel)
theorem im_X10_product : Cond.instanceMethod yX10_product ∈ qv_gt := qv_gin 887 (by decide +kernel) (by decide +kernel)
theorem se_X10_product : Cond.selects yX10_product.cls yX10_product yX10_product ∈ qv_gt := qv_gin 38 (by decide +kernel) (by decide +kernel)
theorem pd_X10_product : (parseMethodDescriptor yX10_product.desc).map (fun d => d.parameters.length) = some 3 := by decide +kernel
theorem fw_RX10_46 : qv_fw RX10 46 10 12 := ⟨RX10, TX10, 29, rfl, by decide, gl_X10, qv_gin 937 (by decide +kernel) (by decide +kernel), rfl⟩
theorem mw_X10_cliffordOf : qv_mw yX10_cliffordOf cX10_cliffordOf 5 (some .int) := ⟨qv_gin 917 (by decide +kernel) (by decide +kernel), qv_gin 79 (by decide +kernel) (by decide +kernel), by decide +kernel, by decide +kernel⟩
theorem lk_RX10_160 : Cond.methodLink RX10 160 yX10_cliffordOf ∈ qv_gt := qv_gin 914 (by decide +kernel) (by decide +kernel)
theorem im_X10_cliffordOf : Cond.instanceMethod yX10_cliffordOf ∈ qv_gt := qv_gin 916 (by decide +kernel) (by decide +kernel)
theorem se_X10_cliffordOf : Cond.selects yX10_cliffordOf.cls yX10_cliffordOf yX10_cliffordOf ∈ qv_gt := qv_gin 45 (by decide +kernel) (by decide +kernel)
theorem pd_X10_cliffordOf : (parseMethodDescriptor yX10_cliffordOf.desc).map (fun d => d.parameters.length) = some 1 := by decide +kernel
theorem mw_X10_turns : qv_mw yX10_turns cX10_turns 5 none := ⟨qv_gin 924 (by decide +kernel) (by decide +kernel), qv_gin 79 (by decide +kernel) (by decide +kernel), by decide +kernel, by decide +kernel⟩
theorem lk_RX10_138 : Cond.methodLink RX10 138 yX10_turns ∈ qv_gt := qv_gin 921 (by decide +kernel) (by decide +kernel)
theorem im_X10_turns : Cond.instanceMethod yX10_turns ∈ qv_gt := qv_gin 923 (by decide +kernel) (by decide +kernel)
theorem se_X10_turns : Cond.selects yX10_turns.cls yX10_turns yX10_turns ∈ qv_gt := qv_gin 46 (by decide +kernel) (by decide +kernel)
theorem pd_X10_turns : (parseMethodDescriptor yX10_turns.desc).map (fun d => d.parameters.length) = some 2 := by decide +kernel
theorem fw_RX10_49 : qv_fw RX10 49 10 13 := ⟨RX10, TX10, 29, rfl, by decide, gl_X10, qv_gin 938 (by decide +kernel) (by decide +kernel), rfl⟩
theorem kl_RX10_118 : Cond.constantLong RX10 118 3 ∈ qv_gt := qv_gin 1020 (by decide +kernel) (by decide +kernel)
theorem mw_X10_isIn : qv_mw yX10_isIn cX10_isIn 6 (some .boolean) := ⟨qv_gin 1023 (by decide +kernel) (by decide +kernel), qv_gin 79 (by decide +kernel) (by decide +kernel), by decide +kernel, by decide +kernel⟩
theorem lk_RX10_120 : Cond.methodLink RX10 120 yX10_isIn ∈ qv_gt := qv_gin 1021 (by decide +kernel) (by decide +kernel)
theorem st_X10_isIn : Cond.static yX10_isIn ∈ qv_gt := qv_gin 1022 (by decide +kernel) (by decide +kernel)
theorem pd_X10_isIn : (parseMethodDescriptor yX10_isIn.desc).map (fun d => d.parameters.length) = some 3 := by decide +kernel
theorem kl_RX10_124 : Cond.constantLong RX10 124 6 ∈ qv_gt := qv_gin 1031 (by decide +kernel) (by decide +kernel)
theorem mw_X10_isRegister : qv_mw yX10_isRegister cX10_isRegister 1 (some .boolean) := ⟨qv_gin 1019 (by decide +kernel) (by decide +kernel), qv_gin 79 (by decide +kernel) (by decide +kernel), by decide +kernel, by decide +kernel⟩
theorem lk_RX10_126 : Cond.methodLink RX10 126 yX10_isRegister ∈ qv_gt := qv_gin 1017 (by decide +kernel) (by decide +kernel)
theorem st_X10_isRegister : Cond.static yX10_isRegister ∈ qv_gt := qv_gin 1018 (by decide +kernel) (by decide +kernel)
theorem pd_X10_isRegister : (parseMethodDescriptor yX10_isRegister.desc).map (fun d => d.parameters.length) = some 1 := by decide +kernel
theorem mw_X10_isGate : qv_mw yX10_isGate cX10_isGate 1 (some .boolean) := ⟨qv_gin 1030 (by decide +kernel) (by decide +kernel), qv_gin 79 (by decide +kernel) (by decide +kernel), by decide +kernel, by decide +kernel⟩
theorem lk_RX10_129 : Cond.methodLink RX10 129 yX10_isGate ∈ qv_gt := qv_gin 1028 (by decide +kernel) (by decide +kernel)
theorem st_X10_isGate : Cond.static yX10_isGate ∈ qv_gt := qv_gin 1029 (by decide +kernel) (by decide +kernel)
theorem pd_X10_isGate : (parseMethodDescriptor yX10_isGate.desc).map (fun d => d.parameters.length) = some 1 := by decide +kernel
theorem mw_X10_comes : qv_mw yX10_comes cX10_comes 2 (some .int) := ⟨qv_gin 1035 (by decide +kernel) (by decide +kernel), qv_gin 79 (by decide +kernel) (by decide +kernel), by decide +kernel, by decide +kernel⟩
theorem lk_RX10_135 : Cond.methodLink RX10 135 yX10_comes ∈ qv_gt := qv_gin 1032 (by decide +kernel) (by decide +kernel)
theorem im_X10_comes : Cond.instanceMethod yX10_comes ∈ qv_gt := qv_gin 1034 (by decide +kernel) (by decide +kernel)
theorem se_X10_comes : Cond.selects yX10_comes.cls yX10_comes yX10_comes ∈ qv_gt := qv_gin 47 (by decide +kernel) (by decide +kernel)
theorem pd_X10_comes : (parseMethodDescriptor yX10_comes.desc).map (fun d => d.parameters.length) = some 1 := by decide +kernel
theorem kl_RX10_141 : Cond.constantLong RX10 141 (-9223372036854775808) ∈ qv_gt := qv_gin 1052 (by decide +kernel) (by decide +kernel)
theorem mw_X10_areSame : qv_mw yX10_areSame cX10_areSame 5 (some .boolean) := ⟨qv_gin 1064 (by decide +kernel) (by decide +kernel), qv_gin 79 (by decide +kernel) (by decide +kernel), by decide +kernel, by decide +kernel⟩
theorem lk_RX10_143 : Cond.methodLink RX10 143 yX10_areSame ∈ qv_gt := qv_gin 1061 (by decide +kernel) (by decide +kernel)
theorem im_X10_areSame : Cond.instanceMethod yX10_areSame ∈ qv_gt := qv_gin 1063 (by decide +kernel) (by decide +kernel)
theorem se_X10_areSame : Cond.selects yX10_areSame.cls yX10_areSame yX10_areSame ∈ qv_gt := qv_gin 48 (by decide +kernel) (by decide +kernel)
theorem pd_X10_areSame : (parseMethodDescriptor yX10_areSame.desc).map (fun d => d.parameters.length) = some 2 := by decide +kernel
theorem fw_RX10_40 : qv_fw RX10 40 10 10 := ⟨RX10, TX10, 29, rfl, by decide, gl_X10, qv_gin 935 (by decide +kernel) (by decide +kernel), rfl⟩
theorem fw_RX10_43 : qv_fw RX10 43 10 11 := ⟨RX10, TX10, 29, rfl, by decide, gl_X10, qv_gin 936 (by decide +kernel) (by decide +kernel), rfl⟩
theorem mw_X10_channels : qv_mw yX10_channels cX10_channels 7 (some .int) := ⟨qv_gin 1072 (by decide +kernel) (by decide +kernel), qv_gin 79 (by decide +kernel) (by decide +kernel), by decide +kernel, by decide +kernel⟩
theorem lk_RX10_147 : Cond.methodLink RX10 147 yX10_channels ∈ qv_gt := qv_gin 1069 (by decide +kernel) (by decide +kernel)
theorem im_X10_channels : Cond.instanceMethod yX10_channels ∈ qv_gt := qv_gin 1071 (by decide +kernel) (by decide +kernel)
theorem se_X10_channels : Cond.selects yX10_channels.cls yX10_channels yX10_channels ∈ qv_gt := qv_gin 49 (by decide +kernel) (by decide +kernel)
theorem pd_X10_channels : (parseMethodDescriptor yX10_channels.desc).map (fun d => d.parameters.length) = some 1 := by decide +kernel
theorem mw_X10_isNumber : qv_mw yX10_isNumber cX10_isNumber 2 (some .boolean) := ⟨qv_gin 1088 (by decide +kernel) (by decide +kernel), qv_gin 79 (by decide +kernel) (by decide +kernel), by decide +kernel, by decide +kernel⟩
theorem lk_RX10_166 : Cond.methodLink RX10 166 yX10_isNumber ∈ qv_gt := qv_gin 1085 (by decide +kernel) (by decide +kernel)
theorem im_X10_isNumber : Cond.instanceMethod yX10_isNumber ∈ qv_gt := qv_gin 1087 (by decide +kernel) (by decide +kernel)
theorem se_X10_isNumber : Cond.selects yX10_isNumber.cls yX10_isNumber yX10_isNumber ∈ qv_gt := qv_gin 50 (by decide +kernel) (by decide +kernel)
theorem pd_X10_isNumber : (parseMethodDescriptor yX10_isNumber.desc).map (fun d => d.parameters.length) = some 1 := by decide +kernel
theorem kl_RX10_169 : Cond.constantLong RX10 169 9 ∈ qv_gt := qv_gin 1097 (by decide +kernel) (by decide +kernel)
theorem fw_RX10_21 : qv_fw RX10 21 10 3 := ⟨RX10, TX10, 29, rfl, by decide, gl_X10, qv_gin 928 (by decide +kernel) (by decide +kernel), rfl⟩
theorem fw_RX10_52 : qv_fw RX10 52 10 15 := ⟨RX10, TX10, 29, rfl, by decide, gl_X10, qv_gin 940 (by decide +kernel) (by decide +kernel), rfl⟩
theorem ki_RX10_171 : Cond.constant RX10 171 1000000 ∈ qv_gt := qv_gin 1110 (by decide +kernel) (by decide +kernel)
theorem fw_RX10_55 : qv_fw RX10 55 10 16 := ⟨RX10, TX10, 29, rfl, by decide, gl_X10, qv_gin 941 (by decide +kernel) (by decide +kernel), rfl⟩
theorem mw_X10_costs : qv_mw yX10_costs cX10_costs 6 none := ⟨qv_gin 1109 (by decide +kernel) (by decide +kernel), qv_gin 79 (by decide +kernel) (by decide +kernel), by decide +kernel, by decide +kernel⟩
theorem lk_RX10_172 : Cond.methodLink RX10 172 yX10_costs ∈ qv_gt := qv_gin 1106 (by decide +kernel) (by decide +kernel)
theorem im_X10_costs : Cond.instanceMethod yX10_costs ∈ qv_gt := qv_gin 1108 (by decide +kernel) (by decide +kernel)
theorem se_X10_costs : Cond.selects yX10_costs.cls yX10_costs yX10_costs ∈ qv_gt := qv_gin 52 (by decide +kernel) (by decide +kernel)
theorem pd_X10_costs : (parseMethodDescriptor yX10_costs.desc).map (fun d => d.parameters.length) = some 0 := by decide +kernel
theorem fw_RX10_58 : qv_fw RX10 58 10 17 := ⟨RX10, TX10, 29, rfl, by decide, gl_X10, qv_gin 942 (by decide +kernel) (by decide +kernel), rfl⟩
theorem fw_RX10_175 : qv_fw RX10 175 10 18 := ⟨RX10, TX10, 29, rfl, by decide, gl_X10, qv_gin 943 (by decide +kernel) (by decide +kernel), rfl⟩
theorem pw_RX10_175 : qv_pw RX10 175 10 18 false .int := ⟨RX10, TX10, 29, tyX10, rfl, by decide, gl_X10, qv_gin 943 (by decide +kernel) (by decide +kernel), rfl, tyX10_ok, nmX10, rfl, tyX10_ok 18 (by decide)⟩
theorem mw_X10_cheapestBehind : qv_mw yX10_cheapestBehind cX10_cheapestBehind 4 none := ⟨qv_gin 1105 (by decide +kernel) (by decide +kernel), qv_gin 79 (by decide +kernel) (by decide +kernel), by decide +kernel, by decide +kernel⟩
theorem lk_RX10_178 : Cond.methodLink RX10 178 yX10_cheapestBehind ∈ qv_gt := qv_gin 1102 (by decide +kernel) (by decide +kernel)
theorem im_X10_cheapestBehind : Cond.instanceMethod yX10_cheapestBehind ∈ qv_gt := qv_gin 1104 (by decide +kernel) (by decide +kernel)
theorem se_X10_cheapestBehind : Cond.selects yX10_cheapestBehind.cls yX10_cheapestBehind yX10_cheapestBehind ∈ qv_gt := qv_gin 51 (by decide +kernel) (by decide +kernel)
theorem pd_X10_cheapestBehind : (parseMethodDescriptor yX10_cheapestBehind.desc).map (fun d => d.parameters.length) = some 1 := by decide +kernel
theorem fw_RX10_31 : qv_fw RX10 31 10 6 := ⟨RX10, TX10, 29, rfl, by decide, gl_X10, qv_gin 931 (by decide +kernel) (by decide +kernel), rfl⟩
theorem fw_RX10_28 : qv_fw RX10 28 10 5 := ⟨RX10, TX10, 29, rfl, by decide, gl_X10, qv_gin 930 (by decide +kernel) (by decide +kernel), rfl⟩
theorem mw_X10_isOther : qv_mw yX10_isOther cX10_isOther 4 (some .boolean) := ⟨qv_gin 1129 (by decide +kernel) (by decide +kernel), qv_gin 79 (by decide +kernel) (by decide +kernel), by decide +kernel, by decide +kernel⟩
theorem lk_RX10_181 : Cond.methodLink RX10 181 yX10_isOther ∈ qv_gt := qv_gin 1126 (by decide +kernel) (by decide +kernel)
theorem im_X10_isOther : Cond.instanceMethod yX10_isOther ∈ qv_gt := qv_gin 1128 (by decide +kernel) (by decide +kernel)
theorem se_X10_isOther : Cond.selects yX10_isOther.cls yX10_isOther yX10_isOther ∈ qv_gt := qv_gin 55 (by decide +kernel) (by decide +kernel)
theorem pd_X10_isOther : (parseMethodDescriptor yX10_isOther.desc).map (fun d => d.parameters.length) = some 1 := by decide +kernel
theorem fw_RX10_184 : qv_fw RX10 184 10 22 := ⟨RX10, TX10, 29, rfl, by decide, gl_X10, qv_gin 947 (by decide +kernel) (by decide +kernel), rfl⟩
theorem fw_RX10_67 : qv_fw RX10 67 10 21 := ⟨RX10, TX10, 29, rfl, by decide, gl_X10, qv_gin 946 (by decide +kernel) (by decide +kernel), rfl⟩
theorem fw_RX10_64 : qv_fw RX10 64 10 20 := ⟨RX10, TX10, 29, rfl, by decide, gl_X10, qv_gin 945 (by decide +kernel) (by decide +kernel), rfl⟩
theorem pw_RX10_184 : qv_pw RX10 184 10 22 false .int := ⟨RX10, TX10, 29, tyX10, rfl, by decide, gl_X10, qv_gin 947 (by decide +kernel) (by decide +kernel), rfl, tyX10_ok, nmX10, rfl, tyX10_ok 22 (by decide)⟩
theorem fw_RX10_61 : qv_fw RX10 61 10 19 := ⟨RX10, TX10, 29, rfl, by decide, gl_X10, qv_gin 944 (by decide +kernel) (by decide +kernel), rfl⟩
theorem mw_X10_isWord : qv_mw yX10_isWord cX10_isWord 1 (some .boolean) := ⟨qv_gin 1117 (by decide +kernel) (by decide +kernel), qv_gin 79 (by decide +kernel) (by decide +kernel), by decide +kernel, by decide +kernel⟩
theorem lk_RX10_187 : Cond.methodLink RX10 187 yX10_isWord ∈ qv_gt := qv_gin 1115 (by decide +kernel) (by decide +kernel)
theorem st_X10_isWord : Cond.static yX10_isWord ∈ qv_gt := qv_gin 1116 (by decide +kernel) (by decide +kernel)
theorem pd_X10_isWord : (parseMethodDescriptor yX10_isWord.desc).map (fun d => d.parameters.length) = some 1 := by decide +kernel
theorem mw_X10_takes : qv_mw yX10_takes cX10_takes 3 none := ⟨qv_gin 1121 (by decide +kernel) (by decide +kernel), qv_gin 79 (by decide +kernel) (by decide +kernel), by decide +kernel, by decide +kernel⟩
theorem lk_RX10_190 : Cond.methodLink RX10 190 yX10_takes ∈ qv_gt := qv_gin 1118 (by decide +kernel) (by decide +kernel)
theorem im_X10_takes : Cond.instanceMethod yX10_takes ∈ qv_gt := qv_gin 1120 (by decide +kernel) (by decide +kernel)
theorem se_X10_takes : Cond.selects yX10_takes.cls yX10_takes yX10_takes ∈ qv_gt := qv_gin 53 (by decide +kernel) (by decide +kernel)
theorem pd_X10_takes : (parseMethodDescriptor yX10_takes.desc).map (fun d => d.parameters.length) = some 1 := by decide +kernel
theorem mw_X10_becomes : qv_mw yX10_becomes cX10_becomes 4 (some .int) := ⟨qv_gin 1125 (by decide +kernel) (by decide +kernel), qv_gin 79 (by decide +kernel) (by decide +kernel), by decide +kernel, by decide +kernel⟩
theorem lk_RX10_193 : Cond.methodLink RX10 193 yX10_becomes ∈ qv_gt := qv_gin 1122 (by decide +kernel) (by decide +kernel)
theorem im_X10_becomes : Cond.instanceMethod yX10_becomes ∈ qv_gt := qv_gin 1124 (by decide +kernel) (by decide +kernel)
theorem se_X10_becomes : Cond.selects yX10_becomes.cls yX10_becomes yX10_becomes ∈ qv_gt := qv_gin 54 (by decide +kernel) (by decide +kernel)
theorem pd_X10_becomes : (parseMethodDescriptor yX10_becomes.desc).map (fun d => d.parameters.length) = some 1 := by decide +kernel
theorem mw_X10_valueOf : qv_mw yX10_valueOf cX10_valueOf 7 none := ⟨qv_gin 1145 (by decide +kernel) (by decide +kernel), qv_gin 79 (by decide +kernel) (by decide +kernel), by decide +kernel, by decide +kernel⟩
theorem lk_RX10_196 : Cond.methodLink RX10 196 yX10_valueOf ∈ qv_gt := qv_gin 1142 (by decide +kernel) (by decide +kernel)
theorem im_X10_valueOf : Cond.instanceMethod yX10_valueOf ∈ qv_gt := qv_gin 1144 (by decide +kernel) (by decide +kernel)
theorem se_X10_valueOf : Cond.selects yX10_valueOf.cls yX10_valueOf yX10_valueOf ∈ qv_gt := qv_gin 56 (by decide +kernel) (by decide +kernel)
theorem pd_X10_valueOf : (parseMethodDescriptor yX10_valueOf.desc).map (fun d => d.parameters.length) = some 5 := by decide +kernel
theorem mw_X10_isPair : qv_mw yX10_isPair cX10_isPair 4 (some .boolean) := ⟨qv_gin 1157 (by decide +kernel) (by decide +kernel), qv_gin 79 (by decide +kernel) (by decide +kernel), by decide +kernel, by decide +kernel⟩
theorem lk_RX10_200 : Cond.methodLink RX10 200 yX10_isPair ∈ qv_gt := qv_gin 1154 (by decide +kernel) (by decide +kernel)
theorem im_X10_isPair : Cond.instanceMethod yX10_isPair ∈ qv_gt := qv_gin 1156 (by decide +kernel) (by decide +kernel)
theorem se_X10_isPair : Cond.selects yX10_isPair.cls yX10_isPair yX10_isPair ∈ qv_gt := qv_gin 58 (by decide +kernel) (by decide +kernel)
theorem pd_X10_isPair : (parseMethodDescriptor yX10_isPair.desc).map (fun d => d.parameters.length) = some 3 := by decide +kernel
theorem mw_X10_cuts : qv_mw yX10_cuts cX10_cuts 7 none := ⟨qv_gin 1161 (by decide +kernel) (by decide +kernel), qv_gin 79 (by decide +kernel) (by decide +kernel), by decide +kernel, by decide +kernel⟩
theorem lk_RX10_204 : Cond.methodLink RX10 204 yX10_cuts ∈ qv_gt := qv_gin 1158 (by decide +kernel) (by decide +kernel)
theorem im_X10_cuts : Cond.instanceMethod yX10_cuts ∈ qv_gt := qv_gin 1160 (by decide +kernel) (by decide +kernel)
theorem se_X10_cuts : Cond.selects yX10_cuts.cls yX10_cuts yX10_cuts ∈ qv_gt := qv_gin 59 (by decide +kernel) (by decide +kernel)
theorem pd_X10_cuts : (parseMethodDescriptor yX10_cuts.desc).map (fun d => d.parameters.length) = some 4 := by decide +kernel
theorem mw_X10_isRuled : qv_mw yX10_isRuled cX10_isRuled 3 (some .boolean) := ⟨qv_gin 1153 (by decide +kernel) (by decide +kernel), qv_gin 79 (by decide +kernel) (by decide +kernel), by decide +kernel, by decide +kernel⟩
theorem lk_RX10_208 : Cond.methodLink RX10 208 yX10_isRuled ∈ qv_gt := qv_gin 1150 (by decide +kernel) (by decide +kernel)
theorem im_X10_isRuled : Cond.instanceMethod yX10_isRuled ∈ qv_gt := qv_gin 1152 (by decide +kernel) (by decide +kernel)
theorem se_X10_isRuled : Cond.selects yX10_isRuled.cls yX10_isRuled yX10_isRuled ∈ qv_gt := qv_gin 57 (by decide +kernel) (by decide +kernel)
theorem pd_X10_isRuled : (parseMethodDescriptor yX10_isRuled.desc).map (fun d => d.parameters.length) = some 1 := by decide +kernel
theorem mw_X10_isLess : qv_mw yX10_isLess cX10_isLess 4 (some .boolean) := ⟨qv_gin 1169 (by decide +kernel) (by decide +kernel), qv_gin 79 (by decide +kernel) (by decide +kernel), by decide +kernel, by decide +kernel⟩
theorem lk_RX10_211 : Cond.methodLink RX10 211 yX10_isLess ∈ qv_gt := qv_gin 1166 (by decide +kernel) (by decide +kernel)
theorem im_X10_isLess : Cond.instanceMethod yX10_isLess ∈ qv_gt := qv_gin 1168 (by decide +kernel) (by decide +kernel)
theorem se_X10_isLess : Cond.selects yX10_isLess.cls yX10_isLess yX10_isLess ∈ qv_gt := qv_gin 60 (by decide +kernel) (by decide +kernel)
theorem pd_X10_isLess : (parseMethodDescriptor yX10_isLess.desc).map (fun d => d.parameters.length) = some 2 := by decide +kernel
theorem kl_RX10_214 : Cond.constantLong RX10 214 32 ∈ qv_gt := qv_gin 1186 (by decide +kernel) (by decide +kernel)
theorem kl_RX10_216 : Cond.constantLong RX10 216 126 ∈ qv_gt := qv_gin 1187 (by decide +kernel) (by decide +kernel)
theorem fw_RX10_218 : qv_fw RX10 218 10 24 := ⟨RX10, TX10, 29, rfl, by decide, gl_X10, qv_gin 949 (by decide +kernel) (by decide +kernel), rfl⟩
theorem fw_RX10_70 : qv_fw RX10 70 10 23 := ⟨RX10, TX10, 29, rfl, by decide, gl_X10, qv_gin 948 (by decide +kernel) (by decide +kernel), rfl⟩
theorem pw_RX10_218 : qv_pw RX10 218 10 24 false .int := ⟨RX10, TX10, 29, tyX10, rfl, by decide, gl_X10, qv_gin 949 (by decide +kernel) (by decide +kernel), rfl, tyX10_ok, nmX10, rfl, tyX10_ok 24 (by decide)⟩
theorem fw_RX10_221 : qv_fw RX10 221 10 25 := ⟨RX10, TX10, 29, rfl, by decide, gl_X10, qv_gin 950 (by decide +kernel) (by decide +kernel), rfl⟩
theorem mw_X10_here : qv_mw yX10_here cX10_here 1 (some .int) := ⟨qv_gin 1207 (by decide +kernel) (by decide +kernel), qv_gin 79 (by decide +kernel) (by decide +kernel), by decide +kernel, by decide +kernel⟩
theorem lk_RX10_224 : Cond.methodLink RX10 224 yX10_here ∈ qv_gt := qv_gin 1204 (by decide +kernel) (by decide +kernel)
theorem im_X10_here : Cond.instanceMethod yX10_here ∈ qv_gt := qv_gin 1206 (by decide +kernel) (by decide +kernel)
theorem se_X10_here : Cond.selects yX10_here.cls yX10_here yX10_here ∈ qv_gt := qv_gin 63 (by decide +kernel) (by decide +kernel)
theorem pd_X10_here : (parseMethodDescriptor yX10_here.desc).map (fun d => d.parameters.length) = some 0 := by decide +kernel
theorem mw_X10_gateBy : qv_mw yX10_gateBy cX10_gateBy 1 (some .int) := ⟨qv_gin 1210 (by decide +kernel) (by decide +kernel), qv_gin 79 (by decide +kernel) (by decide +kernel), by decide +kernel, by decide +kernel⟩
theorem lk_RX10_228 : Cond.methodLink RX10 228 yX10_gateBy ∈ qv_gt := qv_gin 1208 (by decide +kernel) (by decide +kernel)
theorem st_X10_gateBy : Cond.static yX10_gateBy ∈ qv_gt := qv_gin 1209 (by decide +kernel) (by decide +kernel)
theorem pd_X10_gateBy : (parseMethodDescriptor yX10_gateBy.desc).map (fun d => d.parameters.length) = some 1 := by decide +kernel
theorem fw_RX10_231 : qv_fw RX10 231 10 26 := ⟨RX10, TX10, 29, rfl, by decide, gl_X10, qv_gin 951 (by decide +kernel) (by decide +kernel), rfl⟩
theorem fw_RX10_234 : qv_fw RX10 234 10 27 := ⟨RX10, TX10, 29, rfl, by decide, gl_X10, qv_gin 952 (by decide +kernel) (by decide +kernel), rfl⟩
theorem pw_RX10_234 : qv_pw RX10 234 10 27 false .boolean := ⟨RX10, TX10, 29, tyX10, rfl, by decide, gl_X10, qv_gin 952 (by decide +kernel) (by decide +kernel), rfl, tyX10_ok, nmX10, rfl, tyX10_ok 27 (by decide)⟩
theorem fw_RX10_73 : qv_fw RX10 73 10 28 := ⟨RX10, TX10, 29, rfl, by decide, gl_X10, qv_gin 953 (by decide +kernel) (by decide +kernel), rfl⟩
theorem mw_X10_puts : qv_mw yX10_puts cX10_puts 2 none := ⟨qv_gin 1218 (by decide +kernel) (by decide +kernel), qv_gin 79 (by decide +kernel) (by decide +kernel), by decide +kernel, by decide +kernel⟩
theorem lk_RX10_238 : Cond.methodLink RX10 238 yX10_puts ∈ qv_gt := qv_gin 1215 (by decide +kernel) (by decide +kernel)
theorem im_X10_puts : Cond.instanceMethod yX10_puts ∈ qv_gt := qv_gin 1217 (by decide +kernel) (by decide +kernel)
theorem se_X10_puts : Cond.selects yX10_puts.cls yX10_puts yX10_puts ∈ qv_gt := qv_gin 65 (by decide +kernel) (by decide +kernel)
theorem pd_X10_puts : (parseMethodDescriptor yX10_puts.desc).map (fun d => d.parameters.length) = some 1 := by decide +kernel
theorem pw_RX10_258 : qv_pw RX10 258 10 9 false .boolean := ⟨RX10, TX10, 29, tyX10, rfl, by decide, gl_X10, qv_gin 934 (by decide +kernel) (by decide +kernel), rfl, tyX10_ok, nmX10, rfl, tyX10_ok 9 (by decide)⟩
theorem mw_X10_all : qv_mw yX10_all cX10_all 1 (some .int) := ⟨qv_gin 1232 (by decide +kernel) (by decide +kernel), qv_gin 79 (by decide +kernel) (by decide +kernel), by decide +kernel, by decide +kernel⟩
theorem lk_RX10_261 : Cond.methodLink RX10 261 yX10_all ∈ qv_gt := qv_gin 1229 (by decide +kernel) (by decide +kernel)
theorem im_X10_all : Cond.instanceMethod yX10_all ∈ qv_gt := qv_gin 1231 (by decide +kernel) (by decide +kernel)
theorem se_X10_all : Cond.selects yX10_all.cls yX10_all yX10_all ∈ qv_gt := qv_gin 67 (by decide +kernel) (by decide +kernel)
theorem pd_X10_all : (parseMethodDescriptor yX10_all.desc).map (fun d => d.parameters.length) = some 0 := by decide +kernel
theorem fw_RX10_25 : qv_fw RX10 25 10 4 := ⟨RX10, TX10, 29, rfl, by decide, gl_X10, qv_gin 929 (by decide +kernel) (by decide +kernel), rfl⟩
theorem fw_RX10_37 : qv_fw RX10 37 10 8 := ⟨RX10, TX10, 29, rfl, by decide, gl_X10, qv_gin 933 (by decide +kernel) (by decide +kernel), rfl⟩
theorem fw_RX10_34 : qv_fw RX10 34 10 7 := ⟨RX10, TX10, 29, rfl, by decide, gl_X10, qv_gin 932 (by decide +kernel) (by decide +kernel), rfl⟩
theorem fw_RX10_18 : qv_fw RX10 18 10 2 := ⟨RX10, TX10, 29, rfl, by decide, gl_X10, qv_gin 927 (by decide +kernel) (by decide +kernel), rfl⟩
theorem fw_RX10_258 : qv_fw RX10 258 10 9 := ⟨RX10, TX10, 29, rfl, by decide, gl_X10, qv_gin 934 (by decide +kernel) (by decide +kernel), rfl⟩
