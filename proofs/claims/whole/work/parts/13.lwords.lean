theorem mw_X9_one : qv_mw yX9_one cX9_one 3 (some .int) := ⟨qv_gin 366 (by decide +kernel) (by decide +kernel), qv_gin 69 (by decide +kernel) (by decide +kernel), by decide +kernel, by decide +kernel⟩
theorem lk_RL_13 : Cond.methodLink RL 13 yX9_one ∈ qv_gt := qv_gin 363 (by decide +kernel) (by decide +kernel)
theorem im_X9_one : Cond.instanceMethod yX9_one ∈ qv_gt := qv_gin 364 (by decide +kernel) (by decide +kernel)
theorem se_X9_one : Cond.selects yX9_one.cls yX9_one yX9_one ∈ qv_gt := qv_gin 365 (by decide +kernel) (by decide +kernel)
theorem pd_X9_one : (parseMethodDescriptor yX9_one.desc).map (fun d => d.parameters.length) = some 1 := by decide +kernel
theorem mw_X10_one : qv_mw yX10_one cX10_one 3 (some .int) := ⟨qv_gin 1016 (by decide +kernel) (by decide +kernel), qv_gin 79 (by decide +kernel) (by decide +kernel), by decide +kernel, by decide +kernel⟩
theorem lk_RL_17 : Cond.methodLink RL 17 yX10_one ∈ qv_gt := qv_gin 1013 (by decide +kernel) (by decide +kernel)
theorem im_X10_one : Cond.instanceMethod yX10_one ∈ qv_gt := qv_gin 1014 (by decide +kernel) (by decide +kernel)
theorem se_X10_one : Cond.selects yX10_one.cls yX10_one yX10_one ∈ qv_gt := qv_gin 1015 (by decide +kernel) (by decide +kernel)
theorem pd_X10_one : (parseMethodDescriptor yX10_one.desc).map (fun d => d.parameters.length) = some 1 := by decide +kernel
theorem mw_X9_gate : qv_mw yX9_gate cX9_gate 3 (some .int) := ⟨qv_gin 377 (by decide +kernel) (by decide +kernel), qv_gin 69 (by decide +kernel) (by decide +kernel), by decide +kernel, by decide +kernel⟩
theorem lk_RL_18 : Cond.methodLink RL 18 yX9_gate ∈ qv_gt := qv_gin 374 (by decide +kernel) (by decide +kernel)
theorem im_X9_gate : Cond.instanceMethod yX9_gate ∈ qv_gt := qv_gin 375 (by decide +kernel) (by decide +kernel)
theorem se_X9_gate : Cond.selects yX9_gate.cls yX9_gate yX9_gate ∈ qv_gt := qv_gin 376 (by decide +kernel) (by decide +kernel)
theorem pd_X9_gate : (parseMethodDescriptor yX9_gate.desc).map (fun d => d.parameters.length) = some 2 := by decide +kernel
theorem mw_X10_gate : qv_mw yX10_gate cX10_gate 3 (some .int) := ⟨qv_gin 1027 (by decide +kernel) (by decide +kernel), qv_gin 79 (by decide +kernel) (by decide +kernel), by decide +kernel, by decide +kernel⟩
theorem lk_RL_22 : Cond.methodLink RL 22 yX10_gate ∈ qv_gt := qv_gin 1024 (by decide +kernel) (by decide +kernel)
theorem im_X10_gate : Cond.instanceMethod yX10_gate ∈ qv_gt := qv_gin 1025 (by decide +kernel) (by decide +kernel)
theorem se_X10_gate : Cond.selects yX10_gate.cls yX10_gate yX10_gate ∈ qv_gt := qv_gin 1026 (by decide +kernel) (by decide +kernel)
theorem pd_X10_gate : (parseMethodDescriptor yX10_gate.desc).map (fun d => d.parameters.length) = some 2 := by decide +kernel
theorem mw_X9_ahead : qv_mw yX9_ahead cX9_ahead 3 (some .int) := ⟨qv_gin 428 (by decide +kernel) (by decide +kernel), qv_gin 69 (by decide +kernel) (by decide +kernel), by decide +kernel, by decide +kernel⟩
theorem lk_RL_23 : Cond.methodLink RL 23 yX9_ahead ∈ qv_gt := qv_gin 425 (by decide +kernel) (by decide +kernel)
theorem im_X9_ahead : Cond.instanceMethod yX9_ahead ∈ qv_gt := qv_gin 426 (by decide +kernel) (by decide +kernel)
theorem se_X9_ahead : Cond.selects yX9_ahead.cls yX9_ahead yX9_ahead ∈ qv_gt := qv_gin 427 (by decide +kernel) (by decide +kernel)
theorem pd_X9_ahead : (parseMethodDescriptor yX9_ahead.desc).map (fun d => d.parameters.length) = some 2 := by decide +kernel
theorem mw_X10_ahead : qv_mw yX10_ahead cX10_ahead 3 (some .int) := ⟨qv_gin 1039 (by decide +kernel) (by decide +kernel), qv_gin 79 (by decide +kernel) (by decide +kernel), by decide +kernel, by decide +kernel⟩
theorem lk_RL_26 : Cond.methodLink RL 26 yX10_ahead ∈ qv_gt := qv_gin 1036 (by decide +kernel) (by decide +kernel)
theorem im_X10_ahead : Cond.instanceMethod yX10_ahead ∈ qv_gt := qv_gin 1037 (by decide +kernel) (by decide +kernel)
theorem se_X10_ahead : Cond.selects yX10_ahead.cls yX10_ahead yX10_ahead ∈ qv_gt := qv_gin 1038 (by decide +kernel) (by decide +kernel)
theorem pd_X10_ahead : (parseMethodDescriptor yX10_ahead.desc).map (fun d => d.parameters.length) = some 2 := by decide +kernel
theorem mw_X9_times : qv_mw yX9_times cX9_times 4 (some .int) := ⟨qv_gin 436 (by decide +kernel) (by decide +kernel), qv_gin 69 (by decide +kernel) (by decide +kernel), by decide +kernel, by decide +kernel⟩
theorem lk_RL_27 : Cond.methodLink RL 27 yX9_times ∈ qv_gt := qv_gin 433 (by decide +kernel) (by decide +kernel)
theorem im_X9_times : Cond.instanceMethod yX9_times ∈ qv_gt := qv_gin 434 (by decide +kernel) (by decide +kernel)
theorem se_X9_times : Cond.selects yX9_times.cls yX9_times yX9_times ∈ qv_gt := qv_gin 435 (by decide +kernel) (by decide +kernel)
theorem pd_X9_times : (parseMethodDescriptor yX9_times.desc).map (fun d => d.parameters.length) = some 3 := by decide +kernel
theorem mw_X10_times : qv_mw yX10_times cX10_times 4 (some .int) := ⟨qv_gin 1043 (by decide +kernel) (by decide +kernel), qv_gin 79 (by decide +kernel) (by decide +kernel), by decide +kernel, by decide +kernel⟩
theorem lk_RL_31 : Cond.methodLink RL 31 yX10_times ∈ qv_gt := qv_gin 1040 (by decide +kernel) (by decide +kernel)
theorem im_X10_times : Cond.instanceMethod yX10_times ∈ qv_gt := qv_gin 1041 (by decide +kernel) (by decide +kernel)
theorem se_X10_times : Cond.selects yX10_times.cls yX10_times yX10_times ∈ qv_gt := qv_gin 1042 (by decide +kernel) (by decide +kernel)
theorem pd_X10_times : (parseMethodDescriptor yX10_times.desc).map (fun d => d.parameters.length) = some 3 := by decide +kernel
theorem mw_X9_turn : qv_mw yX9_turn cX9_turn 2 (some .int) := ⟨qv_gin 449 (by decide +kernel) (by decide +kernel), qv_gin 69 (by decide +kernel) (by decide +kernel), by decide +kernel, by decide +kernel⟩
theorem lk_RL_32 : Cond.methodLink RL 32 yX9_turn ∈ qv_gt := qv_gin 446 (by decide +kernel) (by decide +kernel)
theorem im_X9_turn : Cond.instanceMethod yX9_turn ∈ qv_gt := qv_gin 447 (by decide +kernel) (by decide +kernel)
theorem se_X9_turn : Cond.selects yX9_turn.cls yX9_turn yX9_turn ∈ qv_gt := qv_gin 448 (by decide +kernel) (by decide +kernel)
theorem pd_X9_turn : (parseMethodDescriptor yX9_turn.desc).map (fun d => d.parameters.length) = some 1 := by decide +kernel
theorem mw_X10_turn : qv_mw yX10_turn cX10_turn 2 (some .int) := ⟨qv_gin 1047 (by decide +kernel) (by decide +kernel), qv_gin 79 (by decide +kernel) (by decide +kernel), by decide +kernel, by decide +kernel⟩
theorem lk_RL_35 : Cond.methodLink RL 35 yX10_turn ∈ qv_gt := qv_gin 1044 (by decide +kernel) (by decide +kernel)
theorem im_X10_turn : Cond.instanceMethod yX10_turn ∈ qv_gt := qv_gin 1045 (by decide +kernel) (by decide +kernel)
theorem se_X10_turn : Cond.selects yX10_turn.cls yX10_turn yX10_turn ∈ qv_gt := qv_gin 1046 (by decide +kernel) (by decide +kernel)
theorem pd_X10_turn : (parseMethodDescriptor yX10_turn.desc).map (fun d => d.parameters.length) = some 1 := by decide +kernel
theorem mw_X9_part : qv_mw yX9_part cX9_part 5 (some .long) := ⟨qv_gin 457 (by decide +kernel) (by decide +kernel), qv_gin 69 (by decide +kernel) (by decide +kernel), by decide +kernel, by decide +kernel⟩
theorem lk_RL_36 : Cond.methodLink RL 36 yX9_part ∈ qv_gt := qv_gin 454 (by decide +kernel) (by decide +kernel)
theorem im_X9_part : Cond.instanceMethod yX9_part ∈ qv_gt := qv_gin 455 (by decide +kernel) (by decide +kernel)
theorem se_X9_part : Cond.selects yX9_part.cls yX9_part yX9_part ∈ qv_gt := qv_gin 456 (by decide +kernel) (by decide +kernel)
theorem pd_X9_part : (parseMethodDescriptor yX9_part.desc).map (fun d => d.parameters.length) = some 4 := by decide +kernel
theorem mw_X10_part : qv_mw yX10_part cX10_part 5 (some .long) := ⟨qv_gin 1051 (by decide +kernel) (by decide +kernel), qv_gin 79 (by decide +kernel) (by decide +kernel), by decide +kernel, by decide +kernel⟩
theorem lk_RL_40 : Cond.methodLink RL 40 yX10_part ∈ qv_gt := qv_gin 1048 (by decide +kernel) (by decide +kernel)
theorem im_X10_part : Cond.instanceMethod yX10_part ∈ qv_gt := qv_gin 1049 (by decide +kernel) (by decide +kernel)
theorem se_X10_part : Cond.selects yX10_part.cls yX10_part yX10_part ∈ qv_gt := qv_gin 1050 (by decide +kernel) (by decide +kernel)
theorem pd_X10_part : (parseMethodDescriptor yX10_part.desc).map (fun d => d.parameters.length) = some 4 := by decide +kernel
theorem mw_X9_e : qv_mw yX9_e cX9_e 2 (some .int) := ⟨qv_gin 463 (by decide +kernel) (by decide +kernel), qv_gin 69 (by decide +kernel) (by decide +kernel), by decide +kernel, by decide +kernel⟩
theorem lk_RL_41 : Cond.methodLink RL 41 yX9_e ∈ qv_gt := qv_gin 460 (by decide +kernel) (by decide +kernel)
theorem im_X9_e : Cond.instanceMethod yX9_e ∈ qv_gt := qv_gin 461 (by decide +kernel) (by decide +kernel)
theorem se_X9_e : Cond.selects yX9_e.cls yX9_e yX9_e ∈ qv_gt := qv_gin 462 (by decide +kernel) (by decide +kernel)
theorem pd_X9_e : (parseMethodDescriptor yX9_e.desc).map (fun d => d.parameters.length) = some 1 := by decide +kernel
theorem mw_X10_e : qv_mw yX10_e cX10_e 2 (some .int) := ⟨qv_gin 1056 (by decide +kernel) (by decide +kernel), qv_gin 79 (by decide +kernel) (by decide +kernel), by decide +kernel, by decide +kernel⟩
theorem lk_RL_44 : Cond.methodLink RL 44 yX10_e ∈ qv_gt := qv_gin 1053 (by decide +kernel) (by decide +kernel)
theorem im_X10_e : Cond.instanceMethod yX10_e ∈ qv_gt := qv_gin 1054 (by decide +kernel) (by decide +kernel)
theorem se_X10_e : Cond.selects yX10_e.cls yX10_e yX10_e ∈ qv_gt := qv_gin 1055 (by decide +kernel) (by decide +kernel)
theorem pd_X10_e : (parseMethodDescriptor yX10_e.desc).map (fun d => d.parameters.length) = some 1 := by decide +kernel
theorem mw_X9_phase : qv_mw yX9_phase cX9_phase 4 (some .int) := ⟨qv_gin 467 (by decide +kernel) (by decide +kernel), qv_gin 69 (by decide +kernel) (by decide +kernel), by decide +kernel, by decide +kernel⟩
theorem lk_RL_45 : Cond.methodLink RL 45 yX9_phase ∈ qv_gt := qv_gin 464 (by decide +kernel) (by decide +kernel)
theorem im_X9_phase : Cond.instanceMethod yX9_phase ∈ qv_gt := qv_gin 465 (by decide +kernel) (by decide +kernel)
theorem se_X9_phase : Cond.selects yX9_phase.cls yX9_phase yX9_phase ∈ qv_gt := qv_gin 466 (by decide +kernel) (by decide +kernel)
theorem pd_X9_phase : (parseMethodDescriptor yX9_phase.desc).map (fun d => d.parameters.length) = some 2 := by decide +kernel
theorem mw_X10_phase : qv_mw yX10_phase cX10_phase 4 (some .int) := ⟨qv_gin 1060 (by decide +kernel) (by decide +kernel), qv_gin 79 (by decide +kernel) (by decide +kernel), by decide +kernel, by decide +kernel⟩
theorem lk_RL_48 : Cond.methodLink RL 48 yX10_phase ∈ qv_gt := qv_gin 1057 (by decide +kernel) (by decide +kernel)
theorem im_X10_phase : Cond.instanceMethod yX10_phase ∈ qv_gt := qv_gin 1058 (by decide +kernel) (by decide +kernel)
theorem se_X10_phase : Cond.selects yX10_phase.cls yX10_phase yX10_phase ∈ qv_gt := qv_gin 1059 (by decide +kernel) (by decide +kernel)
theorem pd_X10_phase : (parseMethodDescriptor yX10_phase.desc).map (fun d => d.parameters.length) = some 2 := by decide +kernel
theorem mw_X9_channel : qv_mw yX9_channel cX9_channel 5 (some .long) := ⟨qv_gin 475 (by decide +kernel) (by decide +kernel), qv_gin 69 (by decide +kernel) (by decide +kernel), by decide +kernel, by decide +kernel⟩
theorem lk_RL_49 : Cond.methodLink RL 49 yX9_channel ∈ qv_gt := qv_gin 472 (by decide +kernel) (by decide +kernel)
theorem im_X9_channel : Cond.instanceMethod yX9_channel ∈ qv_gt := qv_gin 473 (by decide +kernel) (by decide +kernel)
theorem se_X9_channel : Cond.selects yX9_channel.cls yX9_channel yX9_channel ∈ qv_gt := qv_gin 474 (by decide +kernel) (by decide +kernel)
theorem pd_X9_channel : (parseMethodDescriptor yX9_channel.desc).map (fun d => d.parameters.length) = some 4 := by decide +kernel
theorem mw_X10_channel : qv_mw yX10_channel cX10_channel 6 (some .long) := ⟨qv_gin 1068 (by decide +kernel) (by decide +kernel), qv_gin 79 (by decide +kernel) (by decide +kernel), by decide +kernel, by decide +kernel⟩
theorem lk_RL_52 : Cond.methodLink RL 52 yX10_channel ∈ qv_gt := qv_gin 1065 (by decide +kernel) (by decide +kernel)
theorem im_X10_channel : Cond.instanceMethod yX10_channel ∈ qv_gt := qv_gin 1066 (by decide +kernel) (by decide +kernel)
theorem se_X10_channel : Cond.selects yX10_channel.cls yX10_channel yX10_channel ∈ qv_gt := qv_gin 1067 (by decide +kernel) (by decide +kernel)
theorem pd_X10_channel : (parseMethodDescriptor yX10_channel.desc).map (fun d => d.parameters.length) = some 4 := by decide +kernel
theorem mw_X9_count : qv_mw yX9_count cX9_count 2 (some .int) := ⟨qv_gin 502 (by decide +kernel) (by decide +kernel), qv_gin 69 (by decide +kernel) (by decide +kernel), by decide +kernel, by decide +kernel⟩
theorem lk_RL_53 : Cond.methodLink RL 53 yX9_count ∈ qv_gt := qv_gin 499 (by decide +kernel) (by decide +kernel)
theorem im_X9_count : Cond.instanceMethod yX9_count ∈ qv_gt := qv_gin 500 (by decide +kernel) (by decide +kernel)
theorem se_X9_count : Cond.selects yX9_count.cls yX9_count yX9_count ∈ qv_gt := qv_gin 501 (by decide +kernel) (by decide +kernel)
theorem pd_X9_count : (parseMethodDescriptor yX9_count.desc).map (fun d => d.parameters.length) = some 1 := by decide +kernel
theorem mw_X10_count : qv_mw yX10_count cX10_count 2 (some .int) := ⟨qv_gin 1076 (by decide +kernel) (by decide +kernel), qv_gin 79 (by decide +kernel) (by decide +kernel), by decide +kernel, by decide +kernel⟩
theorem lk_RL_56 : Cond.methodLink RL 56 yX10_count ∈ qv_gt := qv_gin 1073 (by decide +kernel) (by decide +kernel)
theorem im_X10_count : Cond.instanceMethod yX10_count ∈ qv_gt := qv_gin 1074 (by decide +kernel) (by decide +kernel)
theorem se_X10_count : Cond.selects yX10_count.cls yX10_count yX10_count ∈ qv_gt := qv_gin 1075 (by decide +kernel) (by decide +kernel)
theorem pd_X10_count : (parseMethodDescriptor yX10_count.desc).map (fun d => d.parameters.length) = some 1 := by decide +kernel
theorem mw_X9_clifford : qv_mw yX9_clifford cX9_clifford 2 (some .int) := ⟨qv_gin 506 (by decide +kernel) (by decide +kernel), qv_gin 69 (by decide +kernel) (by decide +kernel), by decide +kernel, by decide +kernel⟩
theorem lk_RL_57 : Cond.methodLink RL 57 yX9_clifford ∈ qv_gt := qv_gin 503 (by decide +kernel) (by decide +kernel)
theorem im_X9_clifford : Cond.instanceMethod yX9_clifford ∈ qv_gt := qv_gin 504 (by decide +kernel) (by decide +kernel)
theorem se_X9_clifford : Cond.selects yX9_clifford.cls yX9_clifford yX9_clifford ∈ qv_gt := qv_gin 505 (by decide +kernel) (by decide +kernel)
theorem pd_X9_clifford : (parseMethodDescriptor yX9_clifford.desc).map (fun d => d.parameters.length) = some 1 := by decide +kernel
theorem mw_X10_clifford : qv_mw yX10_clifford cX10_clifford 2 (some .int) := ⟨qv_gin 1080 (by decide +kernel) (by decide +kernel), qv_gin 79 (by decide +kernel) (by decide +kernel), by decide +kernel, by decide +kernel⟩
theorem lk_RL_60 : Cond.methodLink RL 60 yX10_clifford ∈ qv_gt := qv_gin 1077 (by decide +kernel) (by decide +kernel)
theorem im_X10_clifford : Cond.instanceMethod yX10_clifford ∈ qv_gt := qv_gin 1078 (by decide +kernel) (by decide +kernel)
theorem se_X10_clifford : Cond.selects yX10_clifford.cls yX10_clifford yX10_clifford ∈ qv_gt := qv_gin 1079 (by decide +kernel) (by decide +kernel)
theorem pd_X10_clifford : (parseMethodDescriptor yX10_clifford.desc).map (fun d => d.parameters.length) = some 1 := by decide +kernel
theorem mw_X9_take : qv_mw yX9_take cX9_take 3 (some .int) := ⟨qv_gin 549 (by decide +kernel) (by decide +kernel), qv_gin 69 (by decide +kernel) (by decide +kernel), by decide +kernel, by decide +kernel⟩
theorem lk_RL_61 : Cond.methodLink RL 61 yX9_take ∈ qv_gt := qv_gin 546 (by decide +kernel) (by decide +kernel)
theorem im_X9_take : Cond.instanceMethod yX9_take ∈ qv_gt := qv_gin 547 (by decide +kernel) (by decide +kernel)
theorem se_X9_take : Cond.selects yX9_take.cls yX9_take yX9_take ∈ qv_gt := qv_gin 548 (by decide +kernel) (by decide +kernel)
theorem pd_X9_take : (parseMethodDescriptor yX9_take.desc).map (fun d => d.parameters.length) = some 2 := by decide +kernel
theorem mw_X10_take : qv_mw yX10_take cX10_take 3 (some .int) := ⟨qv_gin 1084 (by decide +kernel) (by decide +kernel), qv_gin 79 (by decide +kernel) (by decide +kernel), by decide +kernel, by decide +kernel⟩
theorem lk_RL_64 : Cond.methodLink RL 64 yX10_take ∈ qv_gt := qv_gin 1081 (by decide +kernel) (by decide +kernel)
theorem im_X10_take : Cond.instanceMethod yX10_take ∈ qv_gt := qv_gin 1082 (by decide +kernel) (by decide +kernel)
theorem se_X10_take : Cond.selects yX10_take.cls yX10_take yX10_take ∈ qv_gt := qv_gin 1083 (by decide +kernel) (by decide +kernel)
theorem pd_X10_take : (parseMethodDescriptor yX10_take.desc).map (fun d => d.parameters.length) = some 2 := by decide +kernel
theorem mw_X9_leads : qv_mw yX9_leads cX9_leads 3 (some .int) := ⟨qv_gin 554 (by decide +kernel) (by decide +kernel), qv_gin 69 (by decide +kernel) (by decide +kernel), by decide +kernel, by decide +kernel⟩
theorem lk_RL_65 : Cond.methodLink RL 65 yX9_leads ∈ qv_gt := qv_gin 551 (by decide +kernel) (by decide +kernel)
theorem im_X9_leads : Cond.instanceMethod yX9_leads ∈ qv_gt := qv_gin 552 (by decide +kernel) (by decide +kernel)
theorem se_X9_leads : Cond.selects yX9_leads.cls yX9_leads yX9_leads ∈ qv_gt := qv_gin 553 (by decide +kernel) (by decide +kernel)
theorem pd_X9_leads : (parseMethodDescriptor yX9_leads.desc).map (fun d => d.parameters.length) = some 2 := by decide +kernel
theorem mw_X10_leads : qv_mw yX10_leads cX10_leads 3 (some .int) := ⟨qv_gin 1092 (by decide +kernel) (by decide +kernel), qv_gin 79 (by decide +kernel) (by decide +kernel), by decide +kernel, by decide +kernel⟩
theorem lk_RL_68 : Cond.methodLink RL 68 yX10_leads ∈ qv_gt := qv_gin 1089 (by decide +kernel) (by decide +kernel)
theorem im_X10_leads : Cond.instanceMethod yX10_leads ∈ qv_gt := qv_gin 1090 (by decide +kernel) (by decide +kernel)
theorem se_X10_leads : Cond.selects yX10_leads.cls yX10_leads yX10_leads ∈ qv_gt := qv_gin 1091 (by decide +kernel) (by decide +kernel)
theorem pd_X10_leads : (parseMethodDescriptor yX10_leads.desc).map (fun d => d.parameters.length) = some 2 := by decide +kernel
theorem mw_X9_price : qv_mw yX9_price cX9_price 4 (some .int) := ⟨qv_gin 559 (by decide +kernel) (by decide +kernel), qv_gin 69 (by decide +kernel) (by decide +kernel), by decide +kernel, by decide +kernel⟩
theorem lk_RL_69 : Cond.methodLink RL 69 yX9_price ∈ qv_gt := qv_gin 556 (by decide +kernel) (by decide +kernel)
theorem im_X9_price : Cond.instanceMethod yX9_price ∈ qv_gt := qv_gin 557 (by decide +kernel) (by decide +kernel)
theorem se_X9_price : Cond.selects yX9_price.cls yX9_price yX9_price ∈ qv_gt := qv_gin 558 (by decide +kernel) (by decide +kernel)
theorem pd_X9_price : (parseMethodDescriptor yX9_price.desc).map (fun d => d.parameters.length) = some 2 := by decide +kernel
theorem mw_X10_price : qv_mw yX10_price cX10_price 4 (some .int) := ⟨qv_gin 1096 (by decide +kernel) (by decide +kernel), qv_gin 79 (by decide +kernel) (by decide +kernel), by decide +kernel, by decide +kernel⟩
theorem lk_RL_72 : Cond.methodLink RL 72 yX10_price ∈ qv_gt := qv_gin 1093 (by decide +kernel) (by decide +kernel)
theorem im_X10_price : Cond.instanceMethod yX10_price ∈ qv_gt := qv_gin 1094 (by decide +kernel) (by decide +kernel)
theorem se_X10_price : Cond.selects yX10_price.cls yX10_price yX10_price ∈ qv_gt := qv_gin 1095 (by decide +kernel) (by decide +kernel)
theorem pd_X10_price : (parseMethodDescriptor yX10_price.desc).map (fun d => d.parameters.length) = some 2 := by decide +kernel
theorem mw_X9_cheapest : qv_mw yX9_cheapest cX9_cheapest 3 (some .int) := ⟨qv_gin 563 (by decide +kernel) (by decide +kernel), qv_gin 69 (by decide +kernel) (by decide +kernel), by decide +kernel, by decide +kernel⟩
theorem lk_RL_73 : Cond.methodLink RL 73 yX9_cheapest ∈ qv_gt := qv_gin 560 (by decide +kernel) (by decide +kernel)
theorem im_X9_cheapest : Cond.instanceMethod yX9_cheapest ∈ qv_gt := qv_gin 561 (by decide +kernel) (by decide +kernel)
theorem se_X9_cheapest : Cond.selects yX9_cheapest.cls yX9_cheapest yX9_cheapest ∈ qv_gt := qv_gin 562 (by decide +kernel) (by decide +kernel)
theorem pd_X9_cheapest : (parseMethodDescriptor yX9_cheapest.desc).map (fun d => d.parameters.length) = some 2 := by decide +kernel
theorem mw_X10_cheapest : qv_mw yX10_cheapest cX10_cheapest 3 (some .int) := ⟨qv_gin 1101 (by decide +kernel) (by decide +kernel), qv_gin 79 (by decide +kernel) (by decide +kernel), by decide +kernel, by decide +kernel⟩
theorem lk_RL_76 : Cond.methodLink RL 76 yX10_cheapest ∈ qv_gt := qv_gin 1098 (by decide +kernel) (by decide +kernel)
theorem im_X10_cheapest : Cond.instanceMethod yX10_cheapest ∈ qv_gt := qv_gin 1099 (by decide +kernel) (by decide +kernel)
theorem se_X10_cheapest : Cond.selects yX10_cheapest.cls yX10_cheapest yX10_cheapest ∈ qv_gt := qv_gin 1100 (by decide +kernel) (by decide +kernel)
theorem pd_X10_cheapest : (parseMethodDescriptor yX10_cheapest.desc).map (fun d => d.parameters.length) = some 2 := by decide +kernel
theorem mw_X9_push : qv_mw yX9_push cX9_push 3 (some .int) := ⟨qv_gin 607 (by decide +kernel) (by decide +kernel), qv_gin 69 (by decide +kernel) (by decide +kernel), by decide +kernel, by decide +kernel⟩
theorem lk_RL_77 : Cond.methodLink RL 77 yX9_push ∈ qv_gt := qv_gin 604 (by decide +kernel) (by decide +kernel)
theorem im_X9_push : Cond.instanceMethod yX9_push ∈ qv_gt := qv_gin 605 (by decide +kernel) (by decide +kernel)
theorem se_X9_push : Cond.selects yX9_push.cls yX9_push yX9_push ∈ qv_gt := qv_gin 606 (by decide +kernel) (by decide +kernel)
theorem pd_X9_push : (parseMethodDescriptor yX9_push.desc).map (fun d => d.parameters.length) = some 2 := by decide +kernel
theorem mw_X10_push : qv_mw yX10_push cX10_push 3 (some .int) := ⟨qv_gin 1114 (by decide +kernel) (by decide +kernel), qv_gin 79 (by decide +kernel) (by decide +kernel), by decide +kernel, by decide +kernel⟩
theorem lk_RL_80 : Cond.methodLink RL 80 yX10_push ∈ qv_gt := qv_gin 1111 (by decide +kernel) (by decide +kernel)
theorem im_X10_push : Cond.instanceMethod yX10_push ∈ qv_gt := qv_gin 1112 (by decide +kernel) (by decide +kernel)
theorem se_X10_push : Cond.selects yX10_push.cls yX10_push yX10_push ∈ qv_gt := qv_gin 1113 (by decide +kernel) (by decide +kernel)
theorem pd_X10_push : (parseMethodDescriptor yX10_push.desc).map (fun d => d.parameters.length) = some 2 := by decide +kernel
theorem mw_X9_pull : qv_mw yX9_pull cX9_pull 3 (some .int) := ⟨qv_gin 639 (by decide +kernel) (by decide +kernel), qv_gin 69 (by decide +kernel) (by decide +kernel), by decide +kernel, by decide +kernel⟩
theorem lk_RL_81 : Cond.methodLink RL 81 yX9_pull ∈ qv_gt := qv_gin 636 (by decide +kernel) (by decide +kernel)
theorem im_X9_pull : Cond.instanceMethod yX9_pull ∈ qv_gt := qv_gin 637 (by decide +kernel) (by decide +kernel)
theorem se_X9_pull : Cond.selects yX9_pull.cls yX9_pull yX9_pull ∈ qv_gt := qv_gin 638 (by decide +kernel) (by decide +kernel)
theorem pd_X9_pull : (parseMethodDescriptor yX9_pull.desc).map (fun d => d.parameters.length) = some 1 := by decide +kernel
theorem mw_X10_pull : qv_mw yX10_pull cX10_pull 4 (some .int) := ⟨qv_gin 1133 (by decide +kernel) (by decide +kernel), qv_gin 79 (by decide +kernel) (by decide +kernel), by decide +kernel, by decide +kernel⟩
theorem lk_RL_84 : Cond.methodLink RL 84 yX10_pull ∈ qv_gt := qv_gin 1130 (by decide +kernel) (by decide +kernel)
theorem im_X10_pull : Cond.instanceMethod yX10_pull ∈ qv_gt := qv_gin 1131 (by decide +kernel) (by decide +kernel)
theorem se_X10_pull : Cond.selects yX10_pull.cls yX10_pull yX10_pull ∈ qv_gt := qv_gin 1132 (by decide +kernel) (by decide +kernel)
theorem pd_X10_pull : (parseMethodDescriptor yX10_pull.desc).map (fun d => d.parameters.length) = some 1 := by decide +kernel
theorem mw_X9_word : qv_mw yX9_word cX9_word 3 (some .int) := ⟨qv_gin 652 (by decide +kernel) (by decide +kernel), qv_gin 69 (by decide +kernel) (by decide +kernel), by decide +kernel, by decide +kernel⟩
theorem lk_RL_85 : Cond.methodLink RL 85 yX9_word ∈ qv_gt := qv_gin 649 (by decide +kernel) (by decide +kernel)
theorem im_X9_word : Cond.instanceMethod yX9_word ∈ qv_gt := qv_gin 650 (by decide +kernel) (by decide +kernel)
theorem se_X9_word : Cond.selects yX9_word.cls yX9_word yX9_word ∈ qv_gt := qv_gin 651 (by decide +kernel) (by decide +kernel)
theorem pd_X9_word : (parseMethodDescriptor yX9_word.desc).map (fun d => d.parameters.length) = some 2 := by decide +kernel
theorem mw_X10_word : qv_mw yX10_word cX10_word 5 (some .int) := ⟨qv_gin 1137 (by decide +kernel) (by decide +kernel), qv_gin 79 (by decide +kernel) (by decide +kernel), by decide +kernel, by decide +kernel⟩
theorem lk_RL_88 : Cond.methodLink RL 88 yX10_word ∈ qv_gt := qv_gin 1134 (by decide +kernel) (by decide +kernel)
theorem im_X10_word : Cond.instanceMethod yX10_word ∈ qv_gt := qv_gin 1135 (by decide +kernel) (by decide +kernel)
theorem se_X10_word : Cond.selects yX10_word.cls yX10_word yX10_word ∈ qv_gt := qv_gin 1136 (by decide +kernel) (by decide +kernel)
theorem pd_X10_word : (parseMethodDescriptor yX10_word.desc).map (fun d => d.parameters.length) = some 2 := by decide +kernel
theorem mw_X9_value : qv_mw yX9_value cX9_value 3 (some .int) := ⟨qv_gin 660 (by decide +kernel) (by decide +kernel), qv_gin 69 (by decide +kernel) (by decide +kernel), by decide +kernel, by decide +kernel⟩
theorem lk_RL_89 : Cond.methodLink RL 89 yX9_value ∈ qv_gt := qv_gin 657 (by decide +kernel) (by decide +kernel)
theorem im_X9_value : Cond.instanceMethod yX9_value ∈ qv_gt := qv_gin 658 (by decide +kernel) (by decide +kernel)
theorem se_X9_value : Cond.selects yX9_value.cls yX9_value yX9_value ∈ qv_gt := qv_gin 659 (by decide +kernel) (by decide +kernel)
theorem pd_X9_value : (parseMethodDescriptor yX9_value.desc).map (fun d => d.parameters.length) = some 2 := by decide +kernel
theorem mw_X10_value : qv_mw yX10_value cX10_value 3 (some .int) := ⟨qv_gin 1141 (by decide +kernel) (by decide +kernel), qv_gin 79 (by decide +kernel) (by decide +kernel), by decide +kernel, by decide +kernel⟩
theorem lk_RL_92 : Cond.methodLink RL 92 yX10_value ∈ qv_gt := qv_gin 1138 (by decide +kernel) (by decide +kernel)
theorem im_X10_value : Cond.instanceMethod yX10_value ∈ qv_gt := qv_gin 1139 (by decide +kernel) (by decide +kernel)
theorem se_X10_value : Cond.selects yX10_value.cls yX10_value yX10_value ∈ qv_gt := qv_gin 1140 (by decide +kernel) (by decide +kernel)
theorem pd_X10_value : (parseMethodDescriptor yX10_value.desc).map (fun d => d.parameters.length) = some 2 := by decide +kernel
theorem mw_X9_shorter : qv_mw yX9_shorter cX9_shorter 2 (some .int) := ⟨qv_gin 672 (by decide +kernel) (by decide +kernel), qv_gin 69 (by decide +kernel) (by decide +kernel), by decide +kernel, by decide +kernel⟩
theorem lk_RL_93 : Cond.methodLink RL 93 yX9_shorter ∈ qv_gt := qv_gin 669 (by decide +kernel) (by decide +kernel)
theorem im_X9_shorter : Cond.instanceMethod yX9_shorter ∈ qv_gt := qv_gin 670 (by decide +kernel) (by decide +kernel)
theorem se_X9_shorter : Cond.selects yX9_shorter.cls yX9_shorter yX9_shorter ∈ qv_gt := qv_gin 671 (by decide +kernel) (by decide +kernel)
theorem pd_X9_shorter : (parseMethodDescriptor yX9_shorter.desc).map (fun d => d.parameters.length) = some 1 := by decide +kernel
theorem mw_X10_shorter : qv_mw yX10_shorter cX10_shorter 3 (some .int) := ⟨qv_gin 1149 (by decide +kernel) (by decide +kernel), qv_gin 79 (by decide +kernel) (by decide +kernel), by decide +kernel, by decide +kernel⟩
theorem lk_RL_96 : Cond.methodLink RL 96 yX10_shorter ∈ qv_gt := qv_gin 1146 (by decide +kernel) (by decide +kernel)
theorem im_X10_shorter : Cond.instanceMethod yX10_shorter ∈ qv_gt := qv_gin 1147 (by decide +kernel) (by decide +kernel)
theorem se_X10_shorter : Cond.selects yX10_shorter.cls yX10_shorter yX10_shorter ∈ qv_gt := qv_gin 1148 (by decide +kernel) (by decide +kernel)
theorem pd_X10_shorter : (parseMethodDescriptor yX10_shorter.desc).map (fun d => d.parameters.length) = some 1 := by decide +kernel
theorem mw_X9_normal : qv_mw yX9_normal cX9_normal 3 (some .int) := ⟨qv_gin 700 (by decide +kernel) (by decide +kernel), qv_gin 69 (by decide +kernel) (by decide +kernel), by decide +kernel, by decide +kernel⟩
theorem lk_RL_97 : Cond.methodLink RL 97 yX9_normal ∈ qv_gt := qv_gin 697 (by decide +kernel) (by decide +kernel)
theorem im_X9_normal : Cond.instanceMethod yX9_normal ∈ qv_gt := qv_gin 698 (by decide +kernel) (by decide +kernel)
theorem se_X9_normal : Cond.selects yX9_normal.cls yX9_normal yX9_normal ∈ qv_gt := qv_gin 699 (by decide +kernel) (by decide +kernel)
theorem pd_X9_normal : (parseMethodDescriptor yX9_normal.desc).map (fun d => d.parameters.length) = some 2 := by decide +kernel
theorem mw_X10_normal : qv_mw yX10_normal cX10_normal 5 (some .int) := ⟨qv_gin 1165 (by decide +kernel) (by decide +kernel), qv_gin 79 (by decide +kernel) (by decide +kernel), by decide +kernel, by decide +kernel⟩
theorem lk_RL_100 : Cond.methodLink RL 100 yX10_normal ∈ qv_gt := qv_gin 1162 (by decide +kernel) (by decide +kernel)
theorem im_X10_normal : Cond.instanceMethod yX10_normal ∈ qv_gt := qv_gin 1163 (by decide +kernel) (by decide +kernel)
theorem se_X10_normal : Cond.selects yX10_normal.cls yX10_normal yX10_normal ∈ qv_gt := qv_gin 1164 (by decide +kernel) (by decide +kernel)
theorem pd_X10_normal : (parseMethodDescriptor yX10_normal.desc).map (fun d => d.parameters.length) = some 2 := by decide +kernel
theorem mw_X9_fits : qv_mw yX9_fits cX9_fits 7 (some .int) := ⟨qv_gin 731 (by decide +kernel) (by decide +kernel), qv_gin 69 (by decide +kernel) (by decide +kernel), by decide +kernel, by decide +kernel⟩
theorem lk_RL_101 : Cond.methodLink RL 101 yX9_fits ∈ qv_gt := qv_gin 728 (by decide +kernel) (by decide +kernel)
theorem im_X9_fits : Cond.instanceMethod yX9_fits ∈ qv_gt := qv_gin 729 (by decide +kernel) (by decide +kernel)
theorem se_X9_fits : Cond.selects yX9_fits.cls yX9_fits yX9_fits ∈ qv_gt := qv_gin 730 (by decide +kernel) (by decide +kernel)
theorem pd_X9_fits : (parseMethodDescriptor yX9_fits.desc).map (fun d => d.parameters.length) = some 3 := by decide +kernel
theorem mw_X10_fits : qv_mw yX10_fits cX10_fits 6 (some .int) := ⟨qv_gin 1173 (by decide +kernel) (by decide +kernel), qv_gin 79 (by decide +kernel) (by decide +kernel), by decide +kernel, by decide +kernel⟩
theorem lk_RL_104 : Cond.methodLink RL 104 yX10_fits ∈ qv_gt := qv_gin 1170 (by decide +kernel) (by decide +kernel)
theorem im_X10_fits : Cond.instanceMethod yX10_fits ∈ qv_gt := qv_gin 1171 (by decide +kernel) (by decide +kernel)
theorem se_X10_fits : Cond.selects yX10_fits.cls yX10_fits yX10_fits ∈ qv_gt := qv_gin 1172 (by decide +kernel) (by decide +kernel)
theorem pd_X10_fits : (parseMethodDescriptor yX10_fits.desc).map (fun d => d.parameters.length) = some 3 := by decide +kernel
theorem mw_X9_parts : qv_mw yX9_parts cX9_parts 5 (some .int) := ⟨qv_gin 735 (by decide +kernel) (by decide +kernel), qv_gin 69 (by decide +kernel) (by decide +kernel), by decide +kernel, by decide +kernel⟩
theorem lk_RL_105 : Cond.methodLink RL 105 yX9_parts ∈ qv_gt := qv_gin 732 (by decide +kernel) (by decide +kernel)
theorem im_X9_parts : Cond.instanceMethod yX9_parts ∈ qv_gt := qv_gin 733 (by decide +kernel) (by decide +kernel)
theorem se_X9_parts : Cond.selects yX9_parts.cls yX9_parts yX9_parts ∈ qv_gt := qv_gin 734 (by decide +kernel) (by decide +kernel)
theorem pd_X9_parts : (parseMethodDescriptor yX9_parts.desc).map (fun d => d.parameters.length) = some 2 := by decide +kernel
theorem mw_X10_parts : qv_mw yX10_parts cX10_parts 4 (some .int) := ⟨qv_gin 1177 (by decide +kernel) (by decide +kernel), qv_gin 79 (by decide +kernel) (by decide +kernel), by decide +kernel, by decide +kernel⟩
theorem lk_RL_108 : Cond.methodLink RL 108 yX10_parts ∈ qv_gt := qv_gin 1174 (by decide +kernel) (by decide +kernel)
theorem im_X10_parts : Cond.instanceMethod yX10_parts ∈ qv_gt := qv_gin 1175 (by decide +kernel) (by decide +kernel)
theorem se_X10_parts : Cond.selects yX10_parts.cls yX10_parts yX10_parts ∈ qv_gt := qv_gin 1176 (by decide +kernel) (by decide +kernel)
theorem pd_X10_parts : (parseMethodDescriptor yX10_parts.desc).map (fun d => d.parameters.length) = some 2 := by decide +kernel
theorem mw_X9_undo : qv_mw yX9_undo cX9_undo 1 (some .int) := ⟨qv_gin 740 (by decide +kernel) (by decide +kernel), qv_gin 69 (by decide +kernel) (by decide +kernel), by decide +kernel, by decide +kernel⟩
theorem lk_RL_109 : Cond.methodLink RL 109 yX9_undo ∈ qv_gt := qv_gin 737 (by decide +kernel) (by decide +kernel)
theorem im_X9_undo : Cond.instanceMethod yX9_undo ∈ qv_gt := qv_gin 738 (by decide +kernel) (by decide +kernel)
theorem se_X9_undo : Cond.selects yX9_undo.cls yX9_undo yX9_undo ∈ qv_gt := qv_gin 739 (by decide +kernel) (by decide +kernel)
theorem pd_X9_undo : (parseMethodDescriptor yX9_undo.desc).map (fun d => d.parameters.length) = some 0 := by decide +kernel
theorem mw_X10_undo : qv_mw yX10_undo cX10_undo 3 (some .int) := ⟨qv_gin 1181 (by decide +kernel) (by decide +kernel), qv_gin 79 (by decide +kernel) (by decide +kernel), by decide +kernel, by decide +kernel⟩
theorem lk_RL_113 : Cond.methodLink RL 113 yX10_undo ∈ qv_gt := qv_gin 1178 (by decide +kernel) (by decide +kernel)
theorem im_X10_undo : Cond.instanceMethod yX10_undo ∈ qv_gt := qv_gin 1179 (by decide +kernel) (by decide +kernel)
theorem se_X10_undo : Cond.selects yX10_undo.cls yX10_undo yX10_undo ∈ qv_gt := qv_gin 1180 (by decide +kernel) (by decide +kernel)
theorem pd_X10_undo : (parseMethodDescriptor yX10_undo.desc).map (fun d => d.parameters.length) = some 0 := by decide +kernel
theorem mw_X9_feed : qv_mw yX9_feed cX9_feed 2 (some .int) := ⟨qv_gin 748 (by decide +kernel) (by decide +kernel), qv_gin 69 (by decide +kernel) (by decide +kernel), by decide +kernel, by decide +kernel⟩
theorem lk_RL_114 : Cond.methodLink RL 114 yX9_feed ∈ qv_gt := qv_gin 745 (by decide +kernel) (by decide +kernel)
theorem im_X9_feed : Cond.instanceMethod yX9_feed ∈ qv_gt := qv_gin 746 (by decide +kernel) (by decide +kernel)
theorem se_X9_feed : Cond.selects yX9_feed.cls yX9_feed yX9_feed ∈ qv_gt := qv_gin 747 (by decide +kernel) (by decide +kernel)
theorem pd_X9_feed : (parseMethodDescriptor yX9_feed.desc).map (fun d => d.parameters.length) = some 1 := by decide +kernel
theorem mw_X10_feed : qv_mw yX10_feed cX10_feed 2 (some .int) := ⟨qv_gin 1185 (by decide +kernel) (by decide +kernel), qv_gin 79 (by decide +kernel) (by decide +kernel), by decide +kernel, by decide +kernel⟩
theorem lk_RL_117 : Cond.methodLink RL 117 yX10_feed ∈ qv_gt := qv_gin 1182 (by decide +kernel) (by decide +kernel)
theorem im_X10_feed : Cond.instanceMethod yX10_feed ∈ qv_gt := qv_gin 1183 (by decide +kernel) (by decide +kernel)
theorem se_X10_feed : Cond.selects yX10_feed.cls yX10_feed yX10_feed ∈ qv_gt := qv_gin 1184 (by decide +kernel) (by decide +kernel)
theorem pd_X10_feed : (parseMethodDescriptor yX10_feed.desc).map (fun d => d.parameters.length) = some 1 := by decide +kernel
theorem mw_X9_wipe : qv_mw yX9_wipe cX9_wipe 2 (some .int) := ⟨qv_gin 756 (by decide +kernel) (by decide +kernel), qv_gin 69 (by decide +kernel) (by decide +kernel), by decide +kernel, by decide +kernel⟩
theorem lk_RL_118 : Cond.methodLink RL 118 yX9_wipe ∈ qv_gt := qv_gin 753 (by decide +kernel) (by decide +kernel)
theorem im_X9_wipe : Cond.instanceMethod yX9_wipe ∈ qv_gt := qv_gin 754 (by decide +kernel) (by decide +kernel)
theorem se_X9_wipe : Cond.selects yX9_wipe.cls yX9_wipe yX9_wipe ∈ qv_gt := qv_gin 755 (by decide +kernel) (by decide +kernel)
theorem pd_X9_wipe : (parseMethodDescriptor yX9_wipe.desc).map (fun d => d.parameters.length) = some 0 := by decide +kernel
theorem mw_X10_wipe : qv_mw yX10_wipe cX10_wipe 2 (some .int) := ⟨qv_gin 1191 (by decide +kernel) (by decide +kernel), qv_gin 79 (by decide +kernel) (by decide +kernel), by decide +kernel, by decide +kernel⟩
theorem lk_RL_121 : Cond.methodLink RL 121 yX10_wipe ∈ qv_gt := qv_gin 1188 (by decide +kernel) (by decide +kernel)
theorem im_X10_wipe : Cond.instanceMethod yX10_wipe ∈ qv_gt := qv_gin 1189 (by decide +kernel) (by decide +kernel)
theorem se_X10_wipe : Cond.selects yX10_wipe.cls yX10_wipe yX10_wipe ∈ qv_gt := qv_gin 1190 (by decide +kernel) (by decide +kernel)
theorem pd_X10_wipe : (parseMethodDescriptor yX10_wipe.desc).map (fun d => d.parameters.length) = some 0 := by decide +kernel
theorem mw_X9_write : qv_mw yX9_write cX9_write 4 (some .int) := ⟨qv_gin 760 (by decide +kernel) (by decide +kernel), qv_gin 69 (by decide +kernel) (by decide +kernel), by decide +kernel, by decide +kernel⟩
theorem lk_RL_122 : Cond.methodLink RL 122 yX9_write ∈ qv_gt := qv_gin 757 (by decide +kernel) (by decide +kernel)
theorem im_X9_write : Cond.instanceMethod yX9_write ∈ qv_gt := qv_gin 758 (by decide +kernel) (by decide +kernel)
theorem se_X9_write : Cond.selects yX9_write.cls yX9_write yX9_write ∈ qv_gt := qv_gin 759 (by decide +kernel) (by decide +kernel)
theorem pd_X9_write : (parseMethodDescriptor yX9_write.desc).map (fun d => d.parameters.length) = some 1 := by decide +kernel
theorem mw_X10_write : qv_mw yX10_write cX10_write 3 (some .int) := ⟨qv_gin 1195 (by decide +kernel) (by decide +kernel), qv_gin 79 (by decide +kernel) (by decide +kernel), by decide +kernel, by decide +kernel⟩
theorem lk_RL_125 : Cond.methodLink RL 125 yX10_write ∈ qv_gt := qv_gin 1192 (by decide +kernel) (by decide +kernel)
theorem im_X10_write : Cond.instanceMethod yX10_write ∈ qv_gt := qv_gin 1193 (by decide +kernel) (by decide +kernel)
theorem se_X10_write : Cond.selects yX10_write.cls yX10_write yX10_write ∈ qv_gt := qv_gin 1194 (by decide +kernel) (by decide +kernel)
theorem pd_X10_write : (parseMethodDescriptor yX10_write.desc).map (fun d => d.parameters.length) = some 1 := by decide +kernel
theorem mw_X9_image : qv_mw yX9_image cX9_image 1 (some .int) := ⟨qv_gin 822 (by decide +kernel) (by decide +kernel), qv_gin 69 (by decide +kernel) (by decide +kernel), by decide +kernel, by decide +kernel⟩
theorem lk_RL_126 : Cond.methodLink RL 126 yX9_image ∈ qv_gt := qv_gin 819 (by decide +kernel) (by decide +kernel)
theorem im_X9_image : Cond.instanceMethod yX9_image ∈ qv_gt := qv_gin 820 (by decide +kernel) (by decide +kernel)
theorem se_X9_image : Cond.selects yX9_image.cls yX9_image yX9_image ∈ qv_gt := qv_gin 821 (by decide +kernel) (by decide +kernel)
theorem pd_X9_image : (parseMethodDescriptor yX9_image.desc).map (fun d => d.parameters.length) = some 0 := by decide +kernel
theorem mw_X10_image : qv_mw yX10_image cX10_image 2 (some .int) := ⟨qv_gin 1228 (by decide +kernel) (by decide +kernel), qv_gin 79 (by decide +kernel) (by decide +kernel), by decide +kernel, by decide +kernel⟩
theorem lk_RL_129 : Cond.methodLink RL 129 yX10_image ∈ qv_gt := qv_gin 1225 (by decide +kernel) (by decide +kernel)
theorem im_X10_image : Cond.instanceMethod yX10_image ∈ qv_gt := qv_gin 1226 (by decide +kernel) (by decide +kernel)
theorem se_X10_image : Cond.selects yX10_image.cls yX10_image yX10_image ∈ qv_gt := qv_gin 1227 (by decide +kernel) (by decide +kernel)
theorem pd_X10_image : (parseMethodDescriptor yX10_image.desc).map (fun d => d.parameters.length) = some 0 := by decide +kernel
theorem mw_X9_restore : qv_mw yX9_restore cX9_restore 1 (some .int) := ⟨qv_gin 837 (by decide +kernel) (by decide +kernel), qv_gin 69 (by decide +kernel) (by decide +kernel), by decide +kernel, by decide +kernel⟩
theorem lk_RL_130 : Cond.methodLink RL 130 yX9_restore ∈ qv_gt := qv_gin 834 (by decide +kernel) (by decide +kernel)
theorem im_X9_restore : Cond.instanceMethod yX9_restore ∈ qv_gt := qv_gin 835 (by decide +kernel) (by decide +kernel)
theorem se_X9_restore : Cond.selects yX9_restore.cls yX9_restore yX9_restore ∈ qv_gt := qv_gin 836 (by decide +kernel) (by decide +kernel)
theorem pd_X9_restore : (parseMethodDescriptor yX9_restore.desc).map (fun d => d.parameters.length) = some 0 := by decide +kernel
theorem mw_X10_restore : qv_mw yX10_restore cX10_restore 2 (some .int) := ⟨qv_gin 1236 (by decide +kernel) (by decide +kernel), qv_gin 79 (by decide +kernel) (by decide +kernel), by decide +kernel, by decide +kernel⟩
theorem lk_RL_133 : Cond.methodLink RL 133 yX10_restore ∈ qv_gt := qv_gin 1233 (by decide +kernel) (by decide +kernel)
theorem im_X10_restore : Cond.instanceMethod yX10_restore ∈ qv_gt := qv_gin 1234 (by decide +kernel) (by decide +kernel)
theorem se_X10_restore : Cond.selects yX10_restore.cls yX10_restore yX10_restore ∈ qv_gt := qv_gin 1235 (by decide +kernel) (by decide +kernel)
theorem pd_X10_restore : (parseMethodDescriptor yX10_restore.desc).map (fun d => d.parameters.length) = some 0 := by decide +kernel
theorem mw_X9_told : qv_mw yX9_told cX9_told 2 (some .int) := ⟨qv_gin 841 (by decide +kernel) (by decide +kernel), qv_gin 69 (by decide +kernel) (by decide +kernel), by decide +kernel, by decide +kernel⟩
theorem lk_RL_134 : Cond.methodLink RL 134 yX9_told ∈ qv_gt := qv_gin 838 (by decide +kernel) (by decide +kernel)
theorem im_X9_told : Cond.instanceMethod yX9_told ∈ qv_gt := qv_gin 839 (by decide +kernel) (by decide +kernel)
theorem se_X9_told : Cond.selects yX9_told.cls yX9_told yX9_told ∈ qv_gt := qv_gin 840 (by decide +kernel) (by decide +kernel)
theorem pd_X9_told : (parseMethodDescriptor yX9_told.desc).map (fun d => d.parameters.length) = some 1 := by decide +kernel
theorem mw_X10_told : qv_mw yX10_told cX10_told 6 (some .int) := ⟨qv_gin 1240 (by decide +kernel) (by decide +kernel), qv_gin 79 (by decide +kernel) (by decide +kernel), by decide +kernel, by decide +kernel⟩
theorem lk_RL_137 : Cond.methodLink RL 137 yX10_told ∈ qv_gt := qv_gin 1237 (by decide +kernel) (by decide +kernel)
theorem im_X10_told : Cond.instanceMethod yX10_told ∈ qv_gt := qv_gin 1238 (by decide +kernel) (by decide +kernel)
theorem se_X10_told : Cond.selects yX10_told.cls yX10_told yX10_told ∈ qv_gt := qv_gin 1239 (by decide +kernel) (by decide +kernel)
theorem pd_X10_told : (parseMethodDescriptor yX10_told.desc).map (fun d => d.parameters.length) = some 1 := by decide +kernel
