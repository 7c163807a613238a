set_option maxHeartbeats 4000000 in
set_option maxRecDepth 100000 in
theorem c_X9_phase (l : Launch) (X : qv_X) (d : Nat) (T : List qv_Ent) (t : Nat) (p1 : Int32) (p2 : Int32) (M : qv_Mem) {nt : Nat} (ht : qv_is (nt + 4) T 9 14 t) : qv_Ok l X yX9_phase cX9_phase 4 (some .int) (d + 3) T M [.ref (X.2.2.2 + t), .int p1, .int p2] qv_eIM (f_X9_phase T t p1 p2 M) := by
  refine qv_mk (lv := [(0, .ref (X.2.2.2 + t)), (1, .int p1), (2, .int p2)]) (by decide) (Nat.le_of_ble_eq_true rfl) rfl (fun G hG hRm g hr => ?_)
  have g : qv_ok G X cX9_phase RX9 4 := g
  unfold f_X9_phase
  refine qv_iload_n (pc := 0) g dX9_phase_0 rfl rfl ?_
  refine qv_aI rfl (qv_cs (pc := 1) g (c_X9_isRegister (gl G) X (d + 1) T _ M) (qv_R hRm (by omega) (by decide)) ⟨Nat.zero_le _, Nat.zero_le _⟩ mw_X9_isRegister lk_RX9_90 st_X9_isRegister pd_X9_isRegister rfl (Nat.le_of_ble_eq_true rfl) dX9_phase_1) (fun v1 => ?_)
  refine qv_if_eq (pc := 4) (tgt := 14) g dX9_phase_4 (by decide) ?_ ?_
  · refine qv_iconst (v := (-1)) (pc := 14) g dX9_phase_14 (by decide) ?_
    exact qv_iret (pc := 15) g hr rfl dX9_phase_15
  · refine qv_iload_n (pc := 7) g dX9_phase_7 rfl rfl ?_
    refine qv_aI rfl (qv_cs (pc := 8) g (c_X9_isRegister (gl G) X (d + 1) T _ M) (qv_R hRm (by omega) (by decide)) ⟨Nat.zero_le _, Nat.zero_le _⟩ mw_X9_isRegister lk_RX9_90 st_X9_isRegister pd_X9_isRegister rfl (Nat.le_of_ble_eq_true rfl) dX9_phase_8) (fun v2 => ?_)
    refine qv_if_ne (pc := 11) (tgt := 16) g dX9_phase_11 (by decide) ?_ ?_
    · refine qv_aload_n (pc := 16) g dX9_phase_16 rfl rfl ?_
      have h1 : qv_is _ T 7 2 (qv_rf T t 10) := ht.to 10 (by decide) (by decide) rfl
      refine qv_getr (pc := 17) g fw_RX9_77 ht (by decide) (by decide) rfl dX9_phase_17 ?_
      refine qv_aload_n (pc := 20) g dX9_phase_20 rfl rfl ?_
      have h2 : qv_is _ T 0 3 (qv_rf T t 0) := ht.to 0 (by decide) (by decide) rfl
      refine qv_getr (pc := 21) g fw_RX9_12 ht (by decide) (by decide) rfl dX9_phase_21 ?_
      have h3 : qv_is _ T 37 4 (qv_rf T (qv_rf T t 0) 0) := h2.to 0 (by decide) (by decide) rfl
      refine qv_getr (pc := 24) g fw_RX9_94 h2 (by decide) (by decide) rfl dX9_phase_24 ?_
      refine qv_iload_n (pc := 27) g dX9_phase_27 rfl rfl ?_
      refine qv_aald (pc := 28) g (by decide) h3 (fun _ _ => ⟨_, rfl⟩) dX9_phase_28 (fun z3 => ?_)
      have h4 : qv_is _ T 7 2 (qv_rf T (qv_rf T (qv_rf T t 0) 0) p2.toNatClampNeg) := h3.to _ (by decide) (qv_inb_lt z3) rfl
      refine qv_aV (qv_cv (pc := 29) g (c_X7_makeCopy (gl G) X (d + 2) T _ _ M h1 h4) (qv_R hRm (by omega) (by decide)) ⟨Nat.zero_le _, Nat.zero_le _⟩ mw_X7_makeCopy lk_RX9_108 im_X7_makeCopy se_X7_makeCopy (by decide) rfl h1 pd_X7_makeCopy rfl (Nat.le_of_ble_eq_true rfl) dX9_phase_29) (fun M4 => ?_)
      refine qv_iconst (v := 0) (pc := 32) g dX9_phase_32 (by decide) ?_
      refine qv_istore_n (pc := 33) (lv1 := [(3, .int 0), (0, .ref (X.2.2.2 + t)), (1, .int p1), (2, .int p2)]) g dX9_phase_33 rfl (by decide) rfl ?_
      refine qv_join (fun (k6 : qv_Mem → Option (Int32 × qv_Mem)) => ∀ (M5 : qv_Mem), qv_V G X 4 (qv_QM G X T qv_eIM (0, 0)) T (0, 0) 75 [] [] M5 (k6 M5)) (fun M5 => ?_) (fun k6 qk6 => ?_)
      · refine qv_bipush (v := (-2)) (pc := 75) g dX9_phase_75 (by decide) ?_
        exact qv_iret (pc := 77) g hr rfl dX9_phase_77
      refine qv_lv [1, 2, 0] rfl ?_
      exact qv_L2 (Vh := fun (v7 : Int32) (M8 : qv_Mem) o => qv_V G X 4 (qv_QM G X T qv_eIM (0, 0)) T (0, 0) 34 [(0, .ref (X.2.2.2 + t)), (1, .int p1), (3, .int v7)] [] M8 o) (fun _ _ => qv_none) (fun r9 qr9 v7 M8 => by
        unfold b_X9_phase_34
        refine qv_iload_n (pc := 34) g dX9_phase_34 rfl rfl ?_
        refine qv_bipush (v := 8) (pc := 35) g dX9_phase_35 (by decide) ?_
        refine qv_icmp_ge (pc := 37) (tgt := 75) g dX9_phase_37 (by decide) ?_ ?_
        · refine qv_lv [] rfl ?_
          exact qk6 _
        · refine qv_aload_n (pc := 40) g dX9_phase_40 rfl rfl ?_
          refine qv_getr (pc := 41) g fw_RX9_77 ht (by decide) (by decide) rfl dX9_phase_41 ?_
          refine qv_aload_n (pc := 44) g dX9_phase_44 rfl rfl ?_
          refine qv_getr (pc := 45) g fw_RX9_12 ht (by decide) (by decide) rfl dX9_phase_45 ?_
          refine qv_getr (pc := 48) g fw_RX9_94 h2 (by decide) (by decide) rfl dX9_phase_48 ?_
          refine qv_iload_n (pc := 51) g dX9_phase_51 rfl rfl ?_
          refine qv_aald (pc := 52) g (by decide) h3 (fun _ _ => ⟨_, rfl⟩) dX9_phase_52 (fun z10 => ?_)
          have h5 : qv_is _ T 7 2 (qv_rf T (qv_rf T (qv_rf T t 0) 0) p1.toNatClampNeg) := h3.to _ (by decide) (qv_inb_lt z10) rfl
          refine qv_aI rfl (qv_cv (pc := 53) g (c_X7_isSame (gl G) X (d + 2) T _ _ M8 h1 h5) (qv_R hRm (by omega) (by decide)) ⟨Nat.zero_le _, Nat.zero_le _⟩ mw_X7_isSame lk_RX9_147 im_X7_isSame se_X7_isSame (by decide) rfl h1 pd_X7_isSame rfl (Nat.le_of_ble_eq_true rfl) dX9_phase_53) (fun v11 => ?_)
          refine qv_if_eq (pc := 56) (tgt := 61) g dX9_phase_56 (by decide) ?_ ?_
          · refine qv_aload_n (pc := 61) g dX9_phase_61 rfl rfl ?_
            refine qv_getr (pc := 62) g fw_RX9_77 ht (by decide) (by decide) rfl dX9_phase_62 ?_
            refine qv_iconst (v := 5) (pc := 65) g dX9_phase_65 (by decide) ?_
            refine qv_aV (qv_cv (pc := 66) g (c_X7_applyAhead (gl G) X d T _ _ M8 h1) (qv_R hRm (by omega) (by decide)) ⟨Nat.zero_le _, Nat.zero_le _⟩ mw_X7_applyAhead lk_RX9_120 im_X7_applyAhead se_X7_applyAhead (by decide) rfl h1 pd_X7_applyAhead rfl (Nat.le_of_ble_eq_true rfl) dX9_phase_66) (fun M12 => ?_)
            refine qv_iinc (pc := 69) (v := (v7 + 1)) (lv1 := [(3, .int (v7 + 1)), (0, .ref (X.2.2.2 + t)), (1, .int p1)]) g dX9_phase_69 rfl rfl (by decide) rfl ?_
            refine qv_goto (pc := 72) (tgt := 34) g dX9_phase_72 (by decide) ?_
            refine qv_lv [1, 2, 0] rfl ?_
            exact qr9 _ _
          · refine qv_iload_n (pc := 59) g dX9_phase_59 rfl rfl ?_
            exact qv_iret (pc := 60) g hr rfl dX9_phase_60) _ _ _
    · refine qv_iconst (v := (-1)) (pc := 14) g dX9_phase_14 (by decide) ?_
      exact qv_iret (pc := 15) g hr rfl dX9_phase_15

set_option maxHeartbeats 4000000 in
set_option maxRecDepth 100000 in
theorem c_X1_fillColumn (l : Launch) (X : qv_X) (d : Nat) (T : List qv_Ent) (t : Nat) (p1 : Int32) (M : qv_Mem) {nt : Nat} (ht : qv_is (nt + 2) T 1 6 t) : qv_Ok l X yX1_fillColumn cX1_fillColumn 3 none (d + 2) T M [.ref (X.2.2.2 + t), .int p1] qv_eV (f_X1_fillColumn T t p1 M) := by
  refine qv_mk (lv := [(0, .ref (X.2.2.2 + t)), (1, .int p1)]) (by decide) (Nat.le_of_ble_eq_true rfl) rfl (fun G hG hRm g hr => ?_)
  have g : qv_ok G X cX1_fillColumn RX1 3 := g
  unfold f_X1_fillColumn
  refine qv_aload_n (pc := 0) g dX1_fillColumn_0 rfl rfl ?_
  have h1 : qv_is _ T 7 2 (qv_rf T t 5) := ht.to 5 (by decide) (by decide) rfl
  refine qv_getr (pc := 1) g fw_RX1_32 ht (by decide) (by decide) rfl dX1_fillColumn_1 ?_
  refine qv_aload_n (pc := 4) g dX1_fillColumn_4 rfl rfl ?_
  have h2 : qv_is _ T 7 2 (qv_rf T t 4) := ht.to 4 (by decide) (by decide) rfl
  refine qv_getr (pc := 5) g fw_RX1_29 ht (by decide) (by decide) rfl dX1_fillColumn_5 ?_
  refine qv_aload_n (pc := 8) g dX1_fillColumn_8 rfl rfl ?_
  have h3 : qv_is _ T 7 2 (qv_rf T t 3) := ht.to 3 (by decide) (by decide) rfl
  refine qv_getr (pc := 9) g fw_RX1_25 ht (by decide) (by decide) rfl dX1_fillColumn_9 ?_
  refine qv_aV (qv_cv (pc := 12) g (c_X7_makeProduct (gl G) X d T _ _ _ M h1 h2 h3) (qv_R hRm (by omega) (by decide)) ⟨Nat.zero_le _, Nat.zero_le _⟩ mw_X7_makeProduct lk_RX1_55 im_X7_makeProduct se_X7_makeProduct (by decide) rfl h1 pd_X7_makeProduct rfl (Nat.le_of_ble_eq_true rfl) dX1_fillColumn_12) (fun M1 => ?_)
  refine qv_iconst (v := 0) (pc := 15) g dX1_fillColumn_15 (by decide) ?_
  refine qv_iconst (v := 1) (pc := 16) g dX1_fillColumn_16 (by decide) ?_
  refine qv_aI rfl (qv_cs (pc := 17) g (c_X7_placeOf (gl G) X (d + 1) T _ _ M1) (qv_R hRm (by omega) (by decide)) ⟨Nat.zero_le _, Nat.zero_le _⟩ mw_X7_placeOf lk_RX1_59 st_X7_placeOf pd_X7_placeOf rfl (Nat.le_of_ble_eq_true rfl) dX1_fillColumn_17) (fun v2 => ?_)
  refine qv_istore_n (pc := 20) (lv1 := [(2, .int v2), (0, .ref (X.2.2.2 + t)), (1, .int p1)]) g dX1_fillColumn_20 rfl (by decide) rfl ?_
  refine qv_aload_n (pc := 21) g dX1_fillColumn_21 rfl rfl ?_
  have h4 : qv_is _ T 21 9 (qv_rf T t 0) := ht.to 0 (by decide) (by decide) rfl
  refine qv_getr (pc := 22) g fw_RX1_11 ht (by decide) (by decide) rfl dX1_fillColumn_22 ?_
  refine qv_iload_n (pc := 25) g dX1_fillColumn_25 rfl rfl ?_
  refine qv_ldc2 (pc := 26) g kl_RX1_63 dX1_fillColumn_26 ?_
  refine qv_aload_n (pc := 29) g dX1_fillColumn_29 rfl rfl ?_
  refine qv_getr (pc := 30) g fw_RX1_32 ht (by decide) (by decide) rfl dX1_fillColumn_30 ?_
  have h5 : qv_is _ T 21 16 (qv_rf T (qv_rf T t 5) 0) := h1.to 0 (by decide) (by decide) rfl
  refine qv_getr (pc := 33) g fw_RX1_65 h1 (by decide) (by decide) rfl dX1_fillColumn_33 ?_
  refine qv_iload_n (pc := 36) g dX1_fillColumn_36 rfl rfl ?_
  refine qv_lald (pc := 37) g h5 dX1_fillColumn_37 (fun v3 => ?_)
  refine qv_lmul (pc := 38) g dX1_fillColumn_38 ?_
  refine qv_last (pc := 39) g h4 dX1_fillColumn_39 (fun M4 => ?_)
  refine qv_aload_n (pc := 40) g dX1_fillColumn_40 rfl rfl ?_
  have h6 : qv_is _ T 21 9 (qv_rf T t 1) := ht.to 1 (by decide) (by decide) rfl
  refine qv_getr (pc := 41) g fw_RX1_15 ht (by decide) (by decide) rfl dX1_fillColumn_41 ?_
  refine qv_iload_n (pc := 44) g dX1_fillColumn_44 rfl rfl ?_
  refine qv_aload_n (pc := 45) g dX1_fillColumn_45 rfl rfl ?_
  refine qv_getr (pc := 46) g fw_RX1_32 ht (by decide) (by decide) rfl dX1_fillColumn_46 ?_
  refine qv_getr (pc := 49) g fw_RX1_65 h1 (by decide) (by decide) rfl dX1_fillColumn_49 ?_
  refine qv_iload_n (pc := 52) g dX1_fillColumn_52 rfl rfl ?_
  refine qv_iconst (v := 1) (pc := 53) g dX1_fillColumn_53 (by decide) ?_
  refine qv_iadd (pc := 54) g dX1_fillColumn_54 ?_
  refine qv_lald (pc := 55) g h5 dX1_fillColumn_55 (fun v5 => ?_)
  refine qv_aload_n (pc := 56) g dX1_fillColumn_56 rfl rfl ?_
  refine qv_getr (pc := 57) g fw_RX1_32 ht (by decide) (by decide) rfl dX1_fillColumn_57 ?_
  refine qv_getr (pc := 60) g fw_RX1_65 h1 (by decide) (by decide) rfl dX1_fillColumn_60 ?_
  refine qv_iload_n (pc := 63) g dX1_fillColumn_63 rfl rfl ?_
  refine qv_iconst (v := 3) (pc := 64) g dX1_fillColumn_64 (by decide) ?_
  refine qv_iadd (pc := 65) g dX1_fillColumn_65 ?_
  refine qv_lald (pc := 66) g h5 dX1_fillColumn_66 (fun v6 => ?_)
  refine qv_lsub (pc := 67) g dX1_fillColumn_67 ?_
  refine qv_last (pc := 68) g h6 dX1_fillColumn_68 (fun M7 => ?_)
  refine qv_aload_n (pc := 69) g dX1_fillColumn_69 rfl rfl ?_
  refine qv_getr (pc := 70) g fw_RX1_11 ht (by decide) (by decide) rfl dX1_fillColumn_70 ?_
  refine qv_iconst (v := 3) (pc := 73) g dX1_fillColumn_73 (by decide) ?_
  refine qv_iload_n (pc := 74) g dX1_fillColumn_74 rfl rfl ?_
  refine qv_iadd (pc := 75) g dX1_fillColumn_75 ?_
  refine qv_ldc2 (pc := 76) g kl_RX1_68 dX1_fillColumn_76 ?_
  refine qv_aload_n (pc := 79) g dX1_fillColumn_79 rfl rfl ?_
  refine qv_getr (pc := 80) g fw_RX1_32 ht (by decide) (by decide) rfl dX1_fillColumn_80 ?_
  refine qv_getr (pc := 83) g fw_RX1_65 h1 (by decide) (by decide) rfl dX1_fillColumn_83 ?_
  refine qv_iload_n (pc := 86) g dX1_fillColumn_86 rfl rfl ?_
  refine qv_iconst (v := 2) (pc := 87) g dX1_fillColumn_87 (by decide) ?_
  refine qv_iadd (pc := 88) g dX1_fillColumn_88 ?_
  refine qv_lald (pc := 89) g h5 dX1_fillColumn_89 (fun v8 => ?_)
  refine qv_lmul (pc := 90) g dX1_fillColumn_90 ?_
  refine qv_last (pc := 91) g h4 dX1_fillColumn_91 (fun M9 => ?_)
  refine qv_aload_n (pc := 92) g dX1_fillColumn_92 rfl rfl ?_
  refine qv_getr (pc := 93) g fw_RX1_15 ht (by decide) (by decide) rfl dX1_fillColumn_93 ?_
  refine qv_iconst (v := 3) (pc := 96) g dX1_fillColumn_96 (by decide) ?_
  refine qv_iload_n (pc := 97) g dX1_fillColumn_97 rfl rfl ?_
  refine qv_iadd (pc := 98) g dX1_fillColumn_98 ?_
  refine qv_aload_n (pc := 99) g dX1_fillColumn_99 rfl rfl ?_
  refine qv_getr (pc := 100) g fw_RX1_32 ht (by decide) (by decide) rfl dX1_fillColumn_100 ?_
  refine qv_getr (pc := 103) g fw_RX1_65 h1 (by decide) (by decide) rfl dX1_fillColumn_103 ?_
  refine qv_iload_n (pc := 106) g dX1_fillColumn_106 rfl rfl ?_
  refine qv_iconst (v := 1) (pc := 107) g dX1_fillColumn_107 (by decide) ?_
  refine qv_iadd (pc := 108) g dX1_fillColumn_108 ?_
  refine qv_lald (pc := 109) g h5 dX1_fillColumn_109 (fun v10 => ?_)
  refine qv_aload_n (pc := 110) g dX1_fillColumn_110 rfl rfl ?_
  refine qv_getr (pc := 111) g fw_RX1_32 ht (by decide) (by decide) rfl dX1_fillColumn_111 ?_
  refine qv_getr (pc := 114) g fw_RX1_65 h1 (by decide) (by decide) rfl dX1_fillColumn_114 ?_
  refine qv_iload_n (pc := 117) g dX1_fillColumn_117 rfl rfl ?_
  refine qv_iconst (v := 3) (pc := 118) g dX1_fillColumn_118 (by decide) ?_
  refine qv_iadd (pc := 119) g dX1_fillColumn_119 ?_
  refine qv_lald (pc := 120) g h5 dX1_fillColumn_120 (fun v11 => ?_)
  refine qv_ladd (pc := 121) g dX1_fillColumn_121 ?_
  refine qv_lneg (pc := 122) g dX1_fillColumn_122 ?_
  refine qv_last (pc := 123) g h6 dX1_fillColumn_123 (fun M12 => ?_)
  refine qv_iconst (v := 0) (pc := 124) g dX1_fillColumn_124 (by decide) ?_
  refine qv_iconst (v := 0) (pc := 125) g dX1_fillColumn_125 (by decide) ?_
  refine qv_aI rfl (qv_cs (pc := 126) g (c_X7_placeOf (gl G) X (d + 1) T _ _ M12) (qv_R hRm (by omega) (by decide)) ⟨Nat.zero_le _, Nat.zero_le _⟩ mw_X7_placeOf lk_RX1_59 st_X7_placeOf pd_X7_placeOf rfl (Nat.le_of_ble_eq_true rfl) dX1_fillColumn_126) (fun v13 => ?_)
  refine qv_istore_n (pc := 129) (lv1 := [(2, .int v13), (0, .ref (X.2.2.2 + t)), (1, .int p1)]) g dX1_fillColumn_129 rfl (by decide) rfl ?_
  refine qv_aload_n (pc := 130) g dX1_fillColumn_130 rfl rfl ?_
  refine qv_getr (pc := 131) g fw_RX1_11 ht (by decide) (by decide) rfl dX1_fillColumn_131 ?_
  refine qv_bipush (v := 6) (pc := 134) g dX1_fillColumn_134 (by decide) ?_
  refine qv_iload_n (pc := 136) g dX1_fillColumn_136 rfl rfl ?_
  refine qv_iadd (pc := 137) g dX1_fillColumn_137 ?_
  refine qv_ldc2 (pc := 138) g kl_RX1_63 dX1_fillColumn_138 ?_
  refine qv_aload_n (pc := 141) g dX1_fillColumn_141 rfl rfl ?_
  refine qv_getr (pc := 142) g fw_RX1_32 ht (by decide) (by decide) rfl dX1_fillColumn_142 ?_
  refine qv_getr (pc := 145) g fw_RX1_65 h1 (by decide) (by decide) rfl dX1_fillColumn_145 ?_
  refine qv_iload_n (pc := 148) g dX1_fillColumn_148 rfl rfl ?_
  refine qv_lald (pc := 149) g h5 dX1_fillColumn_149 (fun v14 => ?_)
  refine qv_lmul (pc := 150) g dX1_fillColumn_150 ?_
  refine qv_last (pc := 151) g h4 dX1_fillColumn_151 (fun M15 => ?_)
  refine qv_aload_n (pc := 152) g dX1_fillColumn_152 rfl rfl ?_
  refine qv_getr (pc := 153) g fw_RX1_15 ht (by decide) (by decide) rfl dX1_fillColumn_153 ?_
  refine qv_bipush (v := 6) (pc := 156) g dX1_fillColumn_156 (by decide) ?_
  refine qv_iload_n (pc := 158) g dX1_fillColumn_158 rfl rfl ?_
  refine qv_iadd (pc := 159) g dX1_fillColumn_159 ?_
  refine qv_ldc2 (pc := 160) g kl_RX1_63 dX1_fillColumn_160 ?_
  refine qv_aload_n (pc := 163) g dX1_fillColumn_163 rfl rfl ?_
  refine qv_getr (pc := 164) g fw_RX1_32 ht (by decide) (by decide) rfl dX1_fillColumn_164 ?_
  refine qv_getr (pc := 167) g fw_RX1_65 h1 (by decide) (by decide) rfl dX1_fillColumn_167 ?_
  refine qv_iload_n (pc := 170) g dX1_fillColumn_170 rfl rfl ?_
  refine qv_iconst (v := 1) (pc := 171) g dX1_fillColumn_171 (by decide) ?_
  refine qv_iadd (pc := 172) g dX1_fillColumn_172 ?_
  refine qv_lald (pc := 173) g h5 dX1_fillColumn_173 (fun v16 => ?_)
  refine qv_lmul (pc := 174) g dX1_fillColumn_174 ?_
  refine qv_last (pc := 175) g h6 dX1_fillColumn_175 (fun M17 => ?_)
  exact qv_vret (pc := 176) g hr rfl dX1_fillColumn_176

set_option maxHeartbeats 4000000 in
set_option maxRecDepth 100000 in
theorem c_X1_isEven (l : Launch) (X : qv_X) (d : Nat) (T : List qv_Ent) (t : Nat) (M : qv_Mem) {nt : Nat} (ht : qv_is (nt + 2) T 1 6 t) : qv_Ok l X yX1_isEven cX1_isEven 2 (some .boolean) (d) T M [.ref (X.2.2.2 + t)] (qv_eI M) (f_X1_isEven T t M) := by
  refine qv_mk (lv := [(0, .ref (X.2.2.2 + t))]) (by decide) (Nat.le_of_ble_eq_true rfl) rfl (fun G hG hRm g hr => ?_)
  have g : qv_ok G X cX1_isEven RX1 2 := g
  unfold f_X1_isEven
  refine qv_iconst (v := 0) (pc := 0) g dX1_isEven_0 (by decide) ?_
  refine qv_istore_n (pc := 1) (lv1 := [(1, .int 0), (0, .ref (X.2.2.2 + t))]) g dX1_isEven_1 rfl (by decide) rfl ?_
  refine qv_join (fun (k1 : Unit → Option Int32) => ∀ (_ : Unit), qv_V G X 2 (qv_QM G X T (qv_eI M) (0, 0)) T (0, 0) 29 [] [] M (k1 ())) (fun _ => ?_) (fun k1 qk1 => ?_)
  · refine qv_iconst (v := 1) (pc := 29) g dX1_isEven_29 (by decide) ?_
    exact qv_zret (pc := 30) g hr rfl rfl dX1_isEven_30
  refine qv_lv [1, 0] rfl ?_
  exact qv_L1 (Vh := fun (v2 : Int32) o => qv_V G X 2 (qv_QM G X T (qv_eI M) (0, 0)) T (0, 0) 2 [(0, .ref (X.2.2.2 + t)), (1, .int v2)] [] M o) (fun _ => qv_none) (fun r3 qr3 v2 => by
    unfold b_X1_isEven_2
    refine qv_iload_n (pc := 2) g dX1_isEven_2 rfl rfl ?_
    refine qv_bipush (v := 9) (pc := 3) g dX1_isEven_3 (by decide) ?_
    refine qv_icmp_ge (pc := 5) (tgt := 29) g dX1_isEven_5 (by decide) ?_ ?_
    · refine qv_lv [] rfl ?_
      exact qk1 ()
    · refine qv_aload_n (pc := 8) g dX1_isEven_8 rfl rfl ?_
      have h1 : qv_is _ T 21 9 (qv_rf T t 0) := ht.to 0 (by decide) (by decide) rfl
      refine qv_getr (pc := 9) g fw_RX1_11 ht (by decide) (by decide) rfl dX1_isEven_9 ?_
      refine qv_iload_n (pc := 12) g dX1_isEven_12 rfl rfl ?_
      refine qv_lald (pc := 13) g h1 dX1_isEven_13 (fun v4 => ?_)
      refine qv_lconst (v := 1) (pc := 14) g dX1_isEven_14 (by decide) ?_
      refine qv_land (pc := 15) g dX1_isEven_15 ?_
      refine qv_lconst (v := 0) (pc := 16) g dX1_isEven_16 (by decide) ?_
      refine qv_lcmp (pc := 17) g dX1_isEven_17 ?_
      refine qv_if_eq (pc := 18) (tgt := 23) g dX1_isEven_18 (by decide) ?_ ?_
      · refine qv_iinc (pc := 23) (v := (v2 + 1)) (lv1 := [(1, .int (v2 + 1)), (0, .ref (X.2.2.2 + t))]) g dX1_isEven_23 rfl rfl (by decide) rfl ?_
        refine qv_goto (pc := 26) (tgt := 2) g dX1_isEven_26 (by decide) ?_
        refine qv_lv [1, 0] rfl ?_
        exact qr3 _
      · refine qv_iconst (v := 0) (pc := 21) g dX1_isEven_21 (by decide) ?_
        exact qv_zret (pc := 22) g hr rfl rfl dX1_isEven_22) _ _

set_option maxHeartbeats 4000000 in
set_option maxRecDepth 100000 in
theorem c_X1_lower (l : Launch) (X : qv_X) (d : Nat) (T : List qv_Ent) (t : Nat) (M : qv_Mem) {nt : Nat} (ht : qv_is (nt + 2) T 1 6 t) : qv_Ok l X yX1_lower cX1_lower 5 none (d + 1) T M [.ref (X.2.2.2 + t)] qv_eV (f_X1_lower T t M) := by
  refine qv_mk (lv := [(0, .ref (X.2.2.2 + t))]) (by decide) (Nat.le_of_ble_eq_true rfl) rfl (fun G hG hRm g hr => ?_)
  have g : qv_ok G X cX1_lower RX1 5 := g
  unfold f_X1_lower
  refine qv_iconst (v := 0) (pc := 0) g dX1_lower_0 (by decide) ?_
  refine qv_istore_n (pc := 1) (lv1 := [(1, .int 0), (0, .ref (X.2.2.2 + t))]) g dX1_lower_1 rfl (by decide) rfl ?_
  refine qv_join (fun (k2 : qv_Mem → Option qv_Mem) => ∀ (M1 : qv_Mem), qv_V G X 5 (qv_QM G X T qv_eV (0, 0)) T (0, 0) 83 [] [] M1 (k2 M1)) (fun M1 => ?_) (fun k2 qk2 => ?_)
  · exact qv_vret (pc := 83) g hr rfl dX1_lower_83
  refine qv_lv [1, 0] rfl ?_
  exact qv_L2 (Vh := fun (v3 : Int32) (M4 : qv_Mem) o => qv_V G X 5 (qv_QM G X T qv_eV (0, 0)) T (0, 0) 2 [(0, .ref (X.2.2.2 + t)), (1, .int v3)] [] M4 o) (fun _ _ => qv_none) (fun r5 qr5 v3 M4 => by
    unfold b_X1_lower_2
    refine qv_iload_n (pc := 2) g dX1_lower_2 rfl rfl ?_
    refine qv_sipush (v := 1000) (pc := 3) g dX1_lower_3 (by decide) ?_
    refine qv_icmp_ge (pc := 6) (tgt := 83) g dX1_lower_6 (by decide) ?_ ?_
    · refine qv_lv [] rfl ?_
      exact qk2 _
    · refine qv_aload_n (pc := 9) g dX1_lower_9 rfl rfl ?_
      refine qv_gets (pc := 10) g fw_RX1_18 ht (by decide) (by decide) rfl dX1_lower_10 (fun v6 => ?_)
      refine qv_if_le (pc := 13) (tgt := 83) g dX1_lower_13 (by decide) ?_ ?_
      · refine qv_lv [] rfl ?_
        exact qk2 _
      · refine qv_aload_n (pc := 16) g dX1_lower_16 rfl rfl ?_
        refine qv_aI rfl (qv_cv (pc := 17) g (c_X1_isEven (gl G) X d T _ M4 ht) (qv_R hRm (by omega) (by decide)) ⟨Nat.zero_le _, Nat.zero_le _⟩ mw_X1_isEven lk_RX1_70 im_X1_isEven se_X1_isEven (by decide) rfl ht pd_X1_isEven rfl (Nat.le_of_ble_eq_true rfl) dX1_lower_17) (fun v7 => ?_)
        refine qv_if_eq (pc := 20) (tgt := 83) g dX1_lower_20 (by decide) ?_ ?_
        · refine qv_lv [] rfl ?_
          exact qk2 _
        · refine qv_iconst (v := 0) (pc := 23) g dX1_lower_23 (by decide) ?_
          refine qv_istore_n (pc := 24) (lv1 := [(2, .int 0), (0, .ref (X.2.2.2 + t)), (1, .int v3)]) g dX1_lower_24 rfl (by decide) rfl ?_
          refine qv_join (fun (k9 : qv_Mem → Option qv_Mem) => ∀ (M8 : qv_Mem), qv_V G X 5 (qv_QM G X T qv_eV (0, 0)) T (0, 0) 67 [(0, .ref (X.2.2.2 + t)), (1, .int v3)] [] M8 (k9 M8)) (fun M8 => ?_) (fun k9 qk9 => ?_)
          · refine qv_aload_n (pc := 67) g dX1_lower_67 rfl rfl ?_
            refine qv_dup (pc := 68) g dX1_lower_68 rfl ?_
            refine qv_gets (pc := 69) g fw_RX1_18 ht (by decide) (by decide) rfl dX1_lower_69 (fun v10 => ?_)
            refine qv_iconst (v := 1) (pc := 72) g dX1_lower_72 (by decide) ?_
            refine qv_isub (pc := 73) g dX1_lower_73 ?_
            refine qv_puti (pc := 74) g pw_RX1_18 ht (by decide) (by decide) rfl dX1_lower_74 (fun M11 => ?_)
            refine qv_iinc (pc := 77) (v := (v3 + 1)) (lv1 := [(1, .int (v3 + 1)), (0, .ref (X.2.2.2 + t))]) g dX1_lower_77 rfl rfl (by decide) rfl ?_
            refine qv_goto (pc := 80) (tgt := 2) g dX1_lower_80 (by decide) ?_
            refine qv_lv [1, 0] rfl ?_
            exact qr5 _ _
          refine qv_lv [1, 2, 0] rfl ?_
          exact qv_L2 (Vh := fun (v12 : Int32) (M13 : qv_Mem) o => qv_V G X 5 (qv_QM G X T qv_eV (0, 0)) T (0, 0) 25 [(0, .ref (X.2.2.2 + t)), (1, .int v3), (2, .int v12)] [] M13 o) (fun _ _ => qv_none) (fun r14 qr14 v12 M13 => by
            unfold b_X1_lower_25
            refine qv_iload_n (pc := 25) g dX1_lower_25 rfl rfl ?_
            refine qv_bipush (v := 9) (pc := 26) g dX1_lower_26 (by decide) ?_
            refine qv_icmp_ge (pc := 28) (tgt := 67) g dX1_lower_28 (by decide) ?_ ?_
            · refine qv_lv [0, 1] rfl ?_
              exact qk9 _
            · refine qv_aload_n (pc := 31) g dX1_lower_31 rfl rfl ?_
              have h1 : qv_is _ T 21 9 (qv_rf T t 0) := ht.to 0 (by decide) (by decide) rfl
              refine qv_getr (pc := 32) g fw_RX1_11 ht (by decide) (by decide) rfl dX1_lower_32 ?_
              refine qv_iload_n (pc := 35) g dX1_lower_35 rfl rfl ?_
              refine qv_lald (pc := 36) g h1 dX1_lower_36 (fun v15 => ?_)
              refine qv_ldc2 (pc := 37) g kl_RX1_63 dX1_lower_37 ?_
              refine qv_ldiv (pc := 40) g dX1_lower_40 (by decide) ?_
              refine qv_lstore_n (pc := 41) (lv1 := [(3, .long (v15 / 2)), (0, .ref (X.2.2.2 + t)), (1, .int v3), (2, .int v12)]) g dX1_lower_41 rfl (by decide) rfl ?_
              refine qv_aload_n (pc := 42) g dX1_lower_42 rfl rfl ?_
              refine qv_getr (pc := 43) g fw_RX1_11 ht (by decide) (by decide) rfl dX1_lower_43 ?_
              refine qv_iload_n (pc := 46) g dX1_lower_46 rfl rfl ?_
              refine qv_aload_n (pc := 47) g dX1_lower_47 rfl rfl ?_
              have h2 : qv_is _ T 21 9 (qv_rf T t 1) := ht.to 1 (by decide) (by decide) rfl
              refine qv_getr (pc := 48) g fw_RX1_15 ht (by decide) (by decide) rfl dX1_lower_48 ?_
              refine qv_iload_n (pc := 51) g dX1_lower_51 rfl rfl ?_
              refine qv_lald (pc := 52) g h2 dX1_lower_52 (fun v16 => ?_)
              refine qv_last (pc := 53) g h1 dX1_lower_53 (fun M17 => ?_)
              refine qv_aload_n (pc := 54) g dX1_lower_54 rfl rfl ?_
              refine qv_getr (pc := 55) g fw_RX1_15 ht (by decide) (by decide) rfl dX1_lower_55 ?_
              refine qv_iload_n (pc := 58) g dX1_lower_58 rfl rfl ?_
              refine qv_lload_n (pc := 59) g dX1_lower_59 rfl rfl ?_
              refine qv_last (pc := 60) g h2 dX1_lower_60 (fun M18 => ?_)
              refine qv_iinc (pc := 61) (v := (v12 + 1)) (lv1 := [(2, .int (v12 + 1)), (3, .long (v15 / 2)), (0, .ref (X.2.2.2 + t)), (1, .int v3)]) g dX1_lower_61 rfl rfl (by decide) rfl ?_
              refine qv_goto (pc := 64) (tgt := 25) g dX1_lower_64 (by decide) ?_
              refine qv_lv [2, 3, 0] rfl ?_
              exact qr14 _ _) _ _ _) _ _ _

set_option maxHeartbeats 4000000 in
set_option maxRecDepth 100000 in
theorem c_X1_makeOf (l : Launch) (X : qv_X) (d : Nat) (T : List qv_Ent) (t : Nat) (t1 : Nat) (M : qv_Mem) {nt : Nat} (ht : qv_is (nt + 2) T 1 6 t) {nt1 : Nat} (ht1 : qv_is (nt1 + 1) T 7 2 t1) : qv_Ok l X yX1_makeOf cX1_makeOf 2 none (d + 3) T M [.ref (X.2.2.2 + t), .ref (X.2.2.2 + t1)] qv_eV (f_X1_makeOf T t t1 M) := by
  refine qv_mk (lv := [(0, .ref (X.2.2.2 + t)), (1, .ref (X.2.2.2 + t1))]) (by decide) (Nat.le_of_ble_eq_true rfl) rfl (fun G hG hRm g hr => ?_)
  have g : qv_ok G X cX1_makeOf RX1 2 := g
  unfold f_X1_makeOf
  refine qv_aload_n (pc := 0) g dX1_makeOf_0 rfl rfl ?_
  have h1 : qv_is _ T 7 2 (qv_rf T t 3) := ht.to 3 (by decide) (by decide) rfl
  refine qv_getr (pc := 1) g fw_RX1_25 ht (by decide) (by decide) rfl dX1_makeOf_1 ?_
  refine qv_aload_n (pc := 4) g dX1_makeOf_4 rfl rfl ?_
  refine qv_aV (qv_cv (pc := 5) g (c_X7_makeTurned (gl G) X (d + 1) T _ _ M h1 ht1) (qv_R hRm (by omega) (by decide)) ⟨Nat.zero_le _, Nat.zero_le _⟩ mw_X7_makeTurned lk_RX1_35 im_X7_makeTurned se_X7_makeTurned (by decide) rfl h1 pd_X7_makeTurned rfl (Nat.le_of_ble_eq_true rfl) dX1_makeOf_5) (fun M1 => ?_)
  refine qv_aload_n (pc := 8) g dX1_makeOf_8 rfl rfl ?_
  have h2 : qv_is _ T 7 2 (qv_rf T t 4) := ht.to 4 (by decide) (by decide) rfl
  refine qv_getr (pc := 9) g fw_RX1_29 ht (by decide) (by decide) rfl dX1_makeOf_9 ?_
  refine qv_aload_n (pc := 12) g dX1_makeOf_12 rfl rfl ?_
  refine qv_aV (qv_cv (pc := 13) g (c_X7_makeCopy (gl G) X (d + 2) T _ _ M1 h2 ht1) (qv_R hRm (by omega) (by decide)) ⟨Nat.zero_le _, Nat.zero_le _⟩ mw_X7_makeCopy lk_RX1_39 im_X7_makeCopy se_X7_makeCopy (by decide) rfl h2 pd_X7_makeCopy rfl (Nat.le_of_ble_eq_true rfl) dX1_makeOf_13) (fun M2 => ?_)
  refine qv_aload_n (pc := 16) g dX1_makeOf_16 rfl rfl ?_
  refine qv_getr (pc := 17) g fw_RX1_29 ht (by decide) (by decide) rfl dX1_makeOf_17 ?_
  refine qv_iconst (v := 3) (pc := 20) g dX1_makeOf_20 (by decide) ?_
  refine qv_aV (qv_cv (pc := 21) g (c_X7_applyBehind (gl G) X d T _ _ M2 h2) (qv_R hRm (by omega) (by decide)) ⟨Nat.zero_le _, Nat.zero_le _⟩ mw_X7_applyBehind lk_RX1_42 im_X7_applyBehind se_X7_applyBehind (by decide) rfl h2 pd_X7_applyBehind rfl (Nat.le_of_ble_eq_true rfl) dX1_makeOf_21) (fun M3 => ?_)
  refine qv_aload_n (pc := 24) g dX1_makeOf_24 rfl rfl ?_
  refine qv_iconst (v := 0) (pc := 25) g dX1_makeOf_25 (by decide) ?_
  refine qv_aV (qv_cv (pc := 26) g (c_X1_fillColumn (gl G) X d T _ _ M3 ht) (qv_R hRm (by omega) (by decide)) ⟨Nat.zero_le _, Nat.zero_le _⟩ mw_X1_fillColumn lk_RX1_46 im_X1_fillColumn se_X1_fillColumn (by decide) rfl ht pd_X1_fillColumn rfl (Nat.le_of_ble_eq_true rfl) dX1_makeOf_26) (fun M4 => ?_)
  refine qv_aload_n (pc := 29) g dX1_makeOf_29 rfl rfl ?_
  refine qv_getr (pc := 30) g fw_RX1_29 ht (by decide) (by decide) rfl dX1_makeOf_30 ?_
  refine qv_iconst (v := 4) (pc := 33) g dX1_makeOf_33 (by decide) ?_
  refine qv_aV (qv_cv (pc := 34) g (c_X7_applyBehind (gl G) X d T _ _ M4 h2) (qv_R hRm (by omega) (by decide)) ⟨Nat.zero_le _, Nat.zero_le _⟩ mw_X7_applyBehind lk_RX1_42 im_X7_applyBehind se_X7_applyBehind (by decide) rfl h2 pd_X7_applyBehind rfl (Nat.le_of_ble_eq_true rfl) dX1_makeOf_34) (fun M5 => ?_)
  refine qv_aload_n (pc := 37) g dX1_makeOf_37 rfl rfl ?_
  refine qv_getr (pc := 38) g fw_RX1_29 ht (by decide) (by decide) rfl dX1_makeOf_38 ?_
  refine qv_iconst (v := 5) (pc := 41) g dX1_makeOf_41 (by decide) ?_
  refine qv_aV (qv_cv (pc := 42) g (c_X7_applyBehind (gl G) X d T _ _ M5 h2) (qv_R hRm (by omega) (by decide)) ⟨Nat.zero_le _, Nat.zero_le _⟩ mw_X7_applyBehind lk_RX1_42 im_X7_applyBehind se_X7_applyBehind (by decide) rfl h2 pd_X7_applyBehind rfl (Nat.le_of_ble_eq_true rfl) dX1_makeOf_42) (fun M6 => ?_)
  refine qv_aload_n (pc := 45) g dX1_makeOf_45 rfl rfl ?_
  refine qv_getr (pc := 46) g fw_RX1_29 ht (by decide) (by decide) rfl dX1_makeOf_46 ?_
  refine qv_iconst (v := 5) (pc := 49) g dX1_makeOf_49 (by decide) ?_
  refine qv_aV (qv_cv (pc := 50) g (c_X7_applyBehind (gl G) X d T _ _ M6 h2) (qv_R hRm (by omega) (by decide)) ⟨Nat.zero_le _, Nat.zero_le _⟩ mw_X7_applyBehind lk_RX1_42 im_X7_applyBehind se_X7_applyBehind (by decide) rfl h2 pd_X7_applyBehind rfl (Nat.le_of_ble_eq_true rfl) dX1_makeOf_50) (fun M7 => ?_)
  refine qv_aload_n (pc := 53) g dX1_makeOf_53 rfl rfl ?_
  refine qv_iconst (v := 1) (pc := 54) g dX1_makeOf_54 (by decide) ?_
  refine qv_aV (qv_cv (pc := 55) g (c_X1_fillColumn (gl G) X d T _ _ M7 ht) (qv_R hRm (by omega) (by decide)) ⟨Nat.zero_le _, Nat.zero_le _⟩ mw_X1_fillColumn lk_RX1_46 im_X1_fillColumn se_X1_fillColumn (by decide) rfl ht pd_X1_fillColumn rfl (Nat.le_of_ble_eq_true rfl) dX1_makeOf_55) (fun M8 => ?_)
  refine qv_aload_n (pc := 58) g dX1_makeOf_58 rfl rfl ?_
  refine qv_getr (pc := 59) g fw_RX1_29 ht (by decide) (by decide) rfl dX1_makeOf_59 ?_
  refine qv_aload_n (pc := 62) g dX1_makeOf_62 rfl rfl ?_
  refine qv_aV (qv_cv (pc := 63) g (c_X7_makeCopy (gl G) X (d + 2) T _ _ M8 h2 ht1) (qv_R hRm (by omega) (by decide)) ⟨Nat.zero_le _, Nat.zero_le _⟩ mw_X7_makeCopy lk_RX1_39 im_X7_makeCopy se_X7_makeCopy (by decide) rfl h2 pd_X7_makeCopy rfl (Nat.le_of_ble_eq_true rfl) dX1_makeOf_63) (fun M9 => ?_)
  refine qv_aload_n (pc := 66) g dX1_makeOf_66 rfl rfl ?_
  refine qv_getr (pc := 67) g fw_RX1_29 ht (by decide) (by decide) rfl dX1_makeOf_67 ?_
  refine qv_iconst (v := 4) (pc := 70) g dX1_makeOf_70 (by decide) ?_
  refine qv_aV (qv_cv (pc := 71) g (c_X7_applyBehind (gl G) X d T _ _ M9 h2) (qv_R hRm (by omega) (by decide)) ⟨Nat.zero_le _, Nat.zero_le _⟩ mw_X7_applyBehind lk_RX1_42 im_X7_applyBehind se_X7_applyBehind (by decide) rfl h2 pd_X7_applyBehind rfl (Nat.le_of_ble_eq_true rfl) dX1_makeOf_71) (fun M10 => ?_)
  refine qv_aload_n (pc := 74) g dX1_makeOf_74 rfl rfl ?_
  refine qv_iconst (v := 2) (pc := 75) g dX1_makeOf_75 (by decide) ?_
  refine qv_aV (qv_cv (pc := 76) g (c_X1_fillColumn (gl G) X d T _ _ M10 ht) (qv_R hRm (by omega) (by decide)) ⟨Nat.zero_le _, Nat.zero_le _⟩ mw_X1_fillColumn lk_RX1_46 im_X1_fillColumn se_X1_fillColumn (by decide) rfl ht pd_X1_fillColumn rfl (Nat.le_of_ble_eq_true rfl) dX1_makeOf_76) (fun M11 => ?_)
  refine qv_aload_n (pc := 79) g dX1_makeOf_79 rfl rfl ?_
  refine qv_iconst (v := 2) (pc := 80) g dX1_makeOf_80 (by decide) ?_
  refine qv_aload_n (pc := 81) g dX1_makeOf_81 rfl rfl ?_
  refine qv_gets (pc := 82) g fw_RX1_49 ht1 (by decide) (by decide) rfl dX1_makeOf_82 (fun v12 => ?_)
  refine qv_imul (pc := 85) g dX1_makeOf_85 ?_
  refine qv_iconst (v := 2) (pc := 86) g dX1_makeOf_86 (by decide) ?_
  refine qv_iadd (pc := 87) g dX1_makeOf_87 ?_
  refine qv_puti (pc := 88) g pw_RX1_18 ht (by decide) (by decide) rfl dX1_makeOf_88 (fun M13 => ?_)
  refine qv_aload_n (pc := 91) g dX1_makeOf_91 rfl rfl ?_
  refine qv_aV (qv_cv (pc := 92) g (c_X1_lower (gl G) X (d + 1) T _ M13 ht) (qv_R hRm (by omega) (by decide)) ⟨Nat.zero_le _, Nat.zero_le _⟩ mw_X1_lower lk_RX1_52 im_X1_lower se_X1_lower (by decide) rfl ht pd_X1_lower rfl (Nat.le_of_ble_eq_true rfl) dX1_makeOf_92) (fun M14 => ?_)
  exact qv_vret (pc := 95) g hr rfl dX1_makeOf_95

set_option maxHeartbeats 4000000 in
set_option maxRecDepth 100000 in
theorem c_X9_channel (l : Launch) (X : qv_X) (d : Nat) (T : List qv_Ent) (t : Nat) (p1 : Int32) (p2 : Int32) (p3 : Int32) (p4 : Int32) (M : qv_Mem) {nt : Nat} (ht : qv_is (nt + 4) T 9 14 t) : qv_Ok l X yX9_channel cX9_channel 5 (some .long) (d + 4) T M [.ref (X.2.2.2 + t), .int p1, .int p2, .int p3, .int p4] qv_eLM (f_X9_channel T t p1 p2 p3 p4 M) := by
  refine qv_mk (lv := [(0, .ref (X.2.2.2 + t)), (1, .int p1), (2, .int p2), (3, .int p3), (4, .int p4)]) (by decide) (Nat.le_of_ble_eq_true rfl) rfl (fun G hG hRm g hr => ?_)
  have g : qv_ok G X cX9_channel RX9 5 := g
  unfold f_X9_channel
  refine qv_iload_n (pc := 0) g dX9_channel_0 rfl rfl ?_
  refine qv_aI rfl (qv_cs (pc := 1) g (c_X9_isRegister (gl G) X (d + 2) T _ M) (qv_R hRm (by omega) (by decide)) ⟨Nat.zero_le _, Nat.zero_le _⟩ mw_X9_isRegister lk_RX9_90 st_X9_isRegister pd_X9_isRegister rfl (Nat.le_of_ble_eq_true rfl) dX9_channel_1) (fun v1 => ?_)
  refine qv_join (fun (k2 : Unit → Option (Int64 × qv_Mem)) => ∀ (_ : Unit), qv_V G X 5 (qv_QM G X T qv_eLM (0, 0)) T (0, 0) 32 [] [] M (k2 ())) (fun _ => ?_) (fun k2 qk2 => ?_)
  · refine qv_ldc2 (pc := 32) g kl_RX9_137 dX9_channel_32 ?_
    exact qv_lret (pc := 35) g hr rfl dX9_channel_35
  refine qv_if_eq (pc := 4) (tgt := 32) g dX9_channel_4 (by decide) ?_ ?_
  · refine qv_lv [] rfl ?_
    exact qk2 ()
  · refine qv_iload_n (pc := 7) g dX9_channel_7 rfl rfl ?_
    refine qv_iconst (v := 3) (pc := 8) g dX9_channel_8 (by decide) ?_
    refine qv_aI rfl (qv_cs (pc := 9) g (c_X9_isBelow (gl G) X (d + 3) T _ _ M) (qv_R hRm (by omega) (by decide)) ⟨Nat.zero_le _, Nat.zero_le _⟩ mw_X9_isBelow lk_RX9_133 st_X9_isBelow pd_X9_isBelow rfl (Nat.le_of_ble_eq_true rfl) dX9_channel_9) (fun v3 => ?_)
    refine qv_if_eq (pc := 12) (tgt := 32) g dX9_channel_12 (by decide) ?_ ?_
    · refine qv_lv [] rfl ?_
      exact qk2 ()
    · refine qv_iload_n (pc := 15) g dX9_channel_15 rfl rfl ?_
      refine qv_iconst (v := 3) (pc := 16) g dX9_channel_16 (by decide) ?_
      refine qv_aI rfl (qv_cs (pc := 17) g (c_X9_isBelow (gl G) X (d + 3) T _ _ M) (qv_R hRm (by omega) (by decide)) ⟨Nat.zero_le _, Nat.zero_le _⟩ mw_X9_isBelow lk_RX9_133 st_X9_isBelow pd_X9_isBelow rfl (Nat.le_of_ble_eq_true rfl) dX9_channel_17) (fun v4 => ?_)
      refine qv_if_eq (pc := 20) (tgt := 32) g dX9_channel_20 (by decide) ?_ ?_
      · refine qv_lv [] rfl ?_
        exact qk2 ()
      · refine qv_iload (pc := 23) g dX9_channel_23 rfl ?_
        refine qv_iconst (v := 2) (pc := 25) g dX9_channel_25 (by decide) ?_
        refine qv_aI rfl (qv_cs (pc := 26) g (c_X9_isBelow (gl G) X (d + 3) T _ _ M) (qv_R hRm (by omega) (by decide)) ⟨Nat.zero_le _, Nat.zero_le _⟩ mw_X9_isBelow lk_RX9_133 st_X9_isBelow pd_X9_isBelow rfl (Nat.le_of_ble_eq_true rfl) dX9_channel_26) (fun v5 => ?_)
        refine qv_if_ne (pc := 29) (tgt := 36) g dX9_channel_29 (by decide) ?_ ?_
        · refine qv_aload_n (pc := 36) g dX9_channel_36 rfl rfl ?_
          have h1 : qv_is _ T 1 6 (qv_rf T t 7) := ht.to 7 (by decide) (by decide) rfl
          refine qv_getr (pc := 37) g fw_RX9_56 ht (by decide) (by decide) rfl dX9_channel_37 ?_
          refine qv_aload_n (pc := 40) g dX9_channel_40 rfl rfl ?_
          have h2 : qv_is _ T 0 3 (qv_rf T t 0) := ht.to 0 (by decide) (by decide) rfl
          refine qv_getr (pc := 41) g fw_RX9_12 ht (by decide) (by decide) rfl dX9_channel_41 ?_
          have h3 : qv_is _ T 37 4 (qv_rf T (qv_rf T t 0) 0) := h2.to 0 (by decide) (by decide) rfl
          refine qv_getr (pc := 44) g fw_RX9_94 h2 (by decide) (by decide) rfl dX9_channel_44 ?_
          refine qv_iload_n (pc := 47) g dX9_channel_47 rfl rfl ?_
          refine qv_aald (pc := 48) g (by decide) h3 (fun _ _ => ⟨_, rfl⟩) dX9_channel_48 (fun z6 => ?_)
          have h4 : qv_is _ T 7 2 (qv_rf T (qv_rf T (qv_rf T t 0) 0) p1.toNatClampNeg) := h3.to _ (by decide) (qv_inb_lt z6) rfl
          refine qv_aV (qv_cv (pc := 49) g (c_X1_makeOf (gl G) X d T _ _ M h1 h4) (qv_R hRm (by omega) (by decide)) ⟨Nat.zero_le _, Nat.zero_le _⟩ mw_X1_makeOf lk_RX9_151 im_X1_makeOf se_X1_makeOf (by decide) rfl h1 pd_X1_makeOf rfl (Nat.le_of_ble_eq_true rfl) dX9_channel_49) (fun M7 => ?_)
          refine qv_iload (pc := 52) g dX9_channel_52 rfl ?_
          refine qv_if_ne (pc := 54) (tgt := 73) g dX9_channel_54 (by decide) ?_ ?_
          · refine qv_aload_n (pc := 73) g dX9_channel_73 rfl rfl ?_
            refine qv_getr (pc := 74) g fw_RX9_56 ht (by decide) (by decide) rfl dX9_channel_74 ?_
            have h5 : qv_is _ T 21 9 (qv_rf T (qv_rf T t 7) 1) := h1.to 1 (by decide) (by decide) rfl
            refine qv_getr (pc := 77) g fw_RX9_157 h1 (by decide) (by decide) rfl dX9_channel_77 ?_
            refine qv_iload_n (pc := 80) g dX9_channel_80 rfl rfl ?_
            refine qv_iconst (v := 3) (pc := 81) g dX9_channel_81 (by decide) ?_
            refine qv_imul (pc := 82) g dX9_channel_82 ?_
            refine qv_iload_n (pc := 83) g dX9_channel_83 rfl rfl ?_
            refine qv_iadd (pc := 84) g dX9_channel_84 ?_
            refine qv_lald (pc := 85) g h5 dX9_channel_85 (fun v8 => ?_)
            exact qv_lret (pc := 86) g hr rfl dX9_channel_86
          · refine qv_aload_n (pc := 57) g dX9_channel_57 rfl rfl ?_
            refine qv_getr (pc := 58) g fw_RX9_56 ht (by decide) (by decide) rfl dX9_channel_58 ?_
            have h6 : qv_is _ T 21 9 (qv_rf T (qv_rf T t 7) 0) := h1.to 0 (by decide) (by decide) rfl
            refine qv_getr (pc := 61) g fw_RX9_154 h1 (by decide) (by decide) rfl dX9_channel_61 ?_
            refine qv_iload_n (pc := 64) g dX9_channel_64 rfl rfl ?_
            refine qv_iconst (v := 3) (pc := 65) g dX9_channel_65 (by decide) ?_
            refine qv_imul (pc := 66) g dX9_channel_66 ?_
            refine qv_iload_n (pc := 67) g dX9_channel_67 rfl rfl ?_
            refine qv_iadd (pc := 68) g dX9_channel_68 ?_
            refine qv_lald (pc := 69) g h6 dX9_channel_69 (fun v9 => ?_)
            refine qv_goto (pc := 70) (tgt := 86) g dX9_channel_70 (by decide) ?_
            exact qv_lret (pc := 86) g hr rfl dX9_channel_86
        · refine qv_lv [] rfl ?_
          exact qk2 ()

set_option maxHeartbeats 4000000 in
set_option maxRecDepth 100000 in
theorem c_X9_count (l : Launch) (X : qv_X) (d : Nat) (T : List qv_Ent) (t : Nat) (p1 : Int32) (M : qv_Mem) {nt : Nat} (ht : qv_is (nt + 4) T 9 14 t) : qv_Ok l X yX9_count cX9_count 2 (some .int) (d + 4) T M [.ref (X.2.2.2 + t), .int p1] qv_eIM (f_X9_count T t p1 M) := by
  refine qv_mk (lv := [(0, .ref (X.2.2.2 + t)), (1, .int p1)]) (by decide) (Nat.le_of_ble_eq_true rfl) rfl (fun G hG hRm g hr => ?_)
  have g : qv_ok G X cX9_count RX9 2 := g
  unfold f_X9_count
  refine qv_iload_n (pc := 0) g dX9_count_0 rfl rfl ?_
  refine qv_aI rfl (qv_cs (pc := 1) g (c_X9_isRegister (gl G) X (d + 2) T _ M) (qv_R hRm (by omega) (by decide)) ⟨Nat.zero_le _, Nat.zero_le _⟩ mw_X9_isRegister lk_RX9_90 st_X9_isRegister pd_X9_isRegister rfl (Nat.le_of_ble_eq_true rfl) dX9_count_1) (fun v1 => ?_)
  refine qv_if_ne (pc := 4) (tgt := 9) g dX9_count_4 (by decide) ?_ ?_
  · refine qv_aload_n (pc := 9) g dX9_count_9 rfl rfl ?_
    have h1 : qv_is _ T 1 6 (qv_rf T t 7) := ht.to 7 (by decide) (by decide) rfl
    refine qv_getr (pc := 10) g fw_RX9_56 ht (by decide) (by decide) rfl dX9_count_10 ?_
    refine qv_aload_n (pc := 13) g dX9_count_13 rfl rfl ?_
    have h2 : qv_is _ T 0 3 (qv_rf T t 0) := ht.to 0 (by decide) (by decide) rfl
    refine qv_getr (pc := 14) g fw_RX9_12 ht (by decide) (by decide) rfl dX9_count_14 ?_
    have h3 : qv_is _ T 37 4 (qv_rf T (qv_rf T t 0) 0) := h2.to 0 (by decide) (by decide) rfl
    refine qv_getr (pc := 17) g fw_RX9_94 h2 (by decide) (by decide) rfl dX9_count_17 ?_
    refine qv_iload_n (pc := 20) g dX9_count_20 rfl rfl ?_
    refine qv_aald (pc := 21) g (by decide) h3 (fun _ _ => ⟨_, rfl⟩) dX9_count_21 (fun z2 => ?_)
    have h4 : qv_is _ T 7 2 (qv_rf T (qv_rf T (qv_rf T t 0) 0) p1.toNatClampNeg) := h3.to _ (by decide) (qv_inb_lt z2) rfl
    refine qv_aV (qv_cv (pc := 22) g (c_X1_makeOf (gl G) X d T _ _ M h1 h4) (qv_R hRm (by omega) (by decide)) ⟨Nat.zero_le _, Nat.zero_le _⟩ mw_X1_makeOf lk_RX9_151 im_X1_makeOf se_X1_makeOf (by decide) rfl h1 pd_X1_makeOf rfl (Nat.le_of_ble_eq_true rfl) dX9_count_22) (fun M3 => ?_)
    refine qv_aload_n (pc := 25) g dX9_count_25 rfl rfl ?_
    refine qv_getr (pc := 26) g fw_RX9_56 ht (by decide) (by decide) rfl dX9_count_26 ?_
    refine qv_gets (pc := 29) g fw_RX9_160 h1 (by decide) (by decide) rfl dX9_count_29 (fun v4 => ?_)
    exact qv_iret (pc := 32) g hr rfl dX9_count_32
  · refine qv_iconst (v := (-1)) (pc := 7) g dX9_count_7 (by decide) ?_
    exact qv_iret (pc := 8) g hr rfl dX9_count_8

set_option maxHeartbeats 4000000 in
set_option maxRecDepth 100000 in
theorem c_X2_keyOf (l : Launch) (X : qv_X) (d : Nat) (T : List qv_Ent) (t0 : Nat) (M : qv_Mem) {nt0 : Nat} (ht0 : qv_is (nt0 + 1) T 7 2 t0) : qv_Ok l X yX2_keyOf cX2_keyOf 5 (some .int) (d) T M [.ref (X.2.2.2 + t0)] (qv_eI M) (f_X2_keyOf T t0 M) := by
  refine qv_mk (lv := [(0, .ref (X.2.2.2 + t0))]) (by decide) (Nat.le_of_ble_eq_true rfl) rfl (fun G hG hRm g hr => ?_)
  have g : qv_ok G X cX2_keyOf RX2 5 := g
  unfold f_X2_keyOf
  refine qv_aload_n (pc := 0) g dX2_keyOf_0 rfl rfl ?_
  refine qv_gets (pc := 1) g fw_RX2_78 ht0 (by decide) (by decide) rfl dX2_keyOf_1 (fun v1 => ?_)
  refine qv_iconst (v := 1) (pc := 4) g dX2_keyOf_4 (by decide) ?_
  refine qv_icmp_le (pc := 5) (tgt := 11) g dX2_keyOf_5 (by decide) ?_ ?_
  · refine qv_aload_n (pc := 11) g dX2_keyOf_11 rfl rfl ?_
    refine qv_gets (pc := 12) g fw_RX2_78 ht0 (by decide) (by decide) rfl dX2_keyOf_12 (fun v2 => ?_)
    refine qv_istore_n (pc := 15) (lv1 := [(1, .int v2), (0, .ref (X.2.2.2 + t0))]) g dX2_keyOf_15 rfl (by decide) rfl ?_
    refine qv_iconst (v := 0) (pc := 16) g dX2_keyOf_16 (by decide) ?_
    refine qv_istore_n (pc := 17) (lv1 := [(2, .int 0), (1, .int v2), (0, .ref (X.2.2.2 + t0))]) g dX2_keyOf_17 rfl (by decide) rfl ?_
    refine qv_join (fun (k4 : Int32 → Option Int32) => ∀ (v3 : Int32), qv_V G X 5 (qv_QM G X T (qv_eI M) (0, 0)) T (0, 0) 63 [(1, .int v3)] [] M (k4 v3)) (fun v3 => ?_) (fun k4 qk4 => ?_)
    · refine qv_iload_n (pc := 63) g dX2_keyOf_63 rfl rfl ?_
      exact qv_iret (pc := 64) g hr rfl dX2_keyOf_64
    refine qv_lv [2, 1, 0] rfl ?_
    exact qv_L2 (Vh := fun (v5 : Int32) (v6 : Int32) o => qv_V G X 5 (qv_QM G X T (qv_eI M) (0, 0)) T (0, 0) 18 [(0, .ref (X.2.2.2 + t0)), (1, .int v5), (2, .int v6)] [] M o) (fun _ _ => qv_none) (fun r7 qr7 v5 v6 => by
      unfold b_X2_keyOf_18
      refine qv_iload_n (pc := 18) g dX2_keyOf_18 rfl rfl ?_
      refine qv_bipush (v := 16) (pc := 19) g dX2_keyOf_19 (by decide) ?_
      refine qv_icmp_ge (pc := 21) (tgt := 63) g dX2_keyOf_21 (by decide) ?_ ?_
      · refine qv_lv [1] rfl ?_
        exact qk4 _
      · refine qv_aload_n (pc := 24) g dX2_keyOf_24 rfl rfl ?_
        have h1 : qv_is _ T 21 16 (qv_rf T t0 0) := ht0.to 0 (by decide) (by decide) rfl
        refine qv_getr (pc := 25) g fw_RX2_74 ht0 (by decide) (by decide) rfl dX2_keyOf_25 ?_
        refine qv_iload_n (pc := 28) g dX2_keyOf_28 rfl rfl ?_
        refine qv_lald (pc := 29) g h1 dX2_keyOf_29 (fun v8 => ?_)
        refine qv_lstore_n (pc := 30) (lv1 := [(3, .long v8), (0, .ref (X.2.2.2 + t0)), (1, .int v5), (2, .int v6)]) g dX2_keyOf_30 rfl (by decide) rfl ?_
        refine qv_lload_n (pc := 31) g dX2_keyOf_31 rfl rfl ?_
        refine qv_ldc2 (pc := 32) g kl_RX2_81 dX2_keyOf_32 ?_
        refine qv_lcmp (pc := 35) g dX2_keyOf_35 ?_
        refine qv_if_lt (pc := 36) (tgt := 45) g dX2_keyOf_36 (by decide) ?_ ?_
        · refine qv_bipush (v := (-2)) (pc := 45) g dX2_keyOf_45 (by decide) ?_
          exact qv_iret (pc := 47) g hr rfl dX2_keyOf_47
        · refine qv_lload_n (pc := 39) g dX2_keyOf_39 rfl rfl ?_
          refine qv_lconst (v := 1) (pc := 40) g dX2_keyOf_40 (by decide) ?_
          refine qv_lcmp (pc := 41) g dX2_keyOf_41 ?_
          refine qv_if_le (pc := 42) (tgt := 48) g dX2_keyOf_42 (by decide) ?_ ?_
          · refine qv_iload_n (pc := 48) g dX2_keyOf_48 rfl rfl ?_
            refine qv_iconst (v := 3) (pc := 49) g dX2_keyOf_49 (by decide) ?_
            refine qv_imul (pc := 50) g dX2_keyOf_50 ?_
            refine qv_lload_n (pc := 51) g dX2_keyOf_51 rfl rfl ?_
            refine qv_l2i (pc := 52) g dX2_keyOf_52 ?_
            refine qv_iadd (pc := 53) g dX2_keyOf_53 ?_
            refine qv_iconst (v := 1) (pc := 54) g dX2_keyOf_54 (by decide) ?_
            refine qv_iadd (pc := 55) g dX2_keyOf_55 ?_
            refine qv_istore_n (pc := 56) (lv1 := [(1, .int (((v5 * 3) + v8.toInt32) + 1)), (3, .long v8), (0, .ref (X.2.2.2 + t0)), (2, .int v6)]) g dX2_keyOf_56 rfl (by decide) rfl ?_
            refine qv_iinc (pc := 57) (v := (v6 + 1)) (lv1 := [(2, .int (v6 + 1)), (1, .int (((v5 * 3) + v8.toInt32) + 1)), (3, .long v8), (0, .ref (X.2.2.2 + t0))]) g dX2_keyOf_57 rfl rfl (by decide) rfl ?_
            refine qv_goto (pc := 60) (tgt := 18) g dX2_keyOf_60 (by decide) ?_
            refine qv_lv [3, 1, 0] rfl ?_
            exact qr7 _ _
          · refine qv_bipush (v := (-2)) (pc := 45) g dX2_keyOf_45 (by decide) ?_
            exact qv_iret (pc := 47) g hr rfl dX2_keyOf_47) _ _ _
  · refine qv_bipush (v := (-2)) (pc := 8) g dX2_keyOf_8 (by decide) ?_
    exact qv_iret (pc := 10) g hr rfl dX2_keyOf_10

set_option maxHeartbeats 4000000 in
set_option maxRecDepth 100000 in
theorem c_X2_load (l : Launch) (X : qv_X) (d : Nat) (T : List qv_Ent) (t : Nat) (p1 : Int32) (t2 : Nat) (M : qv_Mem) {nt : Nat} (ht : qv_is (nt + 2) T 2 10 t) {nt2 : Nat} (ht2 : qv_is (nt2 + 1) T 7 2 t2) : qv_Ok l X yX2_load cX2_load 5 none (d) T M [.ref (X.2.2.2 + t), .int p1, .ref (X.2.2.2 + t2)] qv_eV (f_X2_load T t p1 t2 M) := by
  refine qv_mk (lv := [(0, .ref (X.2.2.2 + t)), (1, .int p1), (2, .ref (X.2.2.2 + t2))]) (by decide) (Nat.le_of_ble_eq_true rfl) rfl (fun G hG hRm g hr => ?_)
  have g : qv_ok G X cX2_load RX2 5 := g
  unfold f_X2_load
  refine qv_aload_n (pc := 0) g dX2_load_0 rfl rfl ?_
  have h1 : qv_is _ T 20 192 (qv_rf T t 0) := ht.to 0 (by decide) (by decide) rfl
  refine qv_getr (pc := 1) g fw_RX2_9 ht (by decide) (by decide) rfl dX2_load_1 ?_
  refine qv_iload_n (pc := 4) g dX2_load_4 rfl rfl ?_
  refine qv_iald (pc := 5) g h1 dX2_load_5 (fun v1 => ?_)
  refine qv_istore_n (pc := 6) (lv1 := [(3, .int v1), (0, .ref (X.2.2.2 + t)), (1, .int p1), (2, .ref (X.2.2.2 + t2))]) g dX2_load_6 rfl (by decide) rfl ?_
  refine qv_bipush (v := 15) (pc := 7) g dX2_load_7 (by decide) ?_
  refine qv_istore (pc := 9) (lv1 := [(4, .int 15), (3, .int v1), (0, .ref (X.2.2.2 + t)), (1, .int p1), (2, .ref (X.2.2.2 + t2))]) g dX2_load_9 (by decide) rfl ?_
  refine qv_join (fun (k4 : Int32 → qv_Mem → Option qv_Mem) => ∀ (v2 : Int32) (M3 : qv_Mem), qv_V G X 5 (qv_QM G X T qv_eV (0, 0)) T (0, 0) 39 [(2, .ref (X.2.2.2 + t2)), (3, .int v2)] [] M3 (k4 v2 M3)) (fun v2 M3 => ?_) (fun k4 qk4 => ?_)
  · refine qv_aload_n (pc := 39) g dX2_load_39 rfl rfl ?_
    refine qv_iload_n (pc := 40) g dX2_load_40 rfl rfl ?_
    refine qv_puti (pc := 41) g pw_RX2_78 ht2 (by decide) (by decide) rfl dX2_load_41 (fun M5 => ?_)
    exact qv_vret (pc := 44) g hr rfl dX2_load_44
  refine qv_lv [4, 1, 0] rfl ?_
  exact qv_L3 (Vh := fun (v6 : Int32) (v7 : Int32) (M8 : qv_Mem) o => qv_V G X 5 (qv_QM G X T qv_eV (0, 0)) T (0, 0) 11 [(2, .ref (X.2.2.2 + t2)), (3, .int v6), (4, .int v7)] [] M8 o) (fun _ _ _ => qv_none) (fun r9 qr9 v6 v7 M8 => by
    unfold b_X2_load_11
    refine qv_iload (pc := 11) g dX2_load_11 rfl ?_
    refine qv_if_lt (pc := 13) (tgt := 39) g dX2_load_13 (by decide) ?_ ?_
    · refine qv_lv [0, 1] rfl ?_
      exact qk4 _ _
    · refine qv_aload_n (pc := 16) g dX2_load_16 rfl rfl ?_
      have h2 : qv_is _ T 21 16 (qv_rf T t2 0) := ht2.to 0 (by decide) (by decide) rfl
      refine qv_getr (pc := 17) g fw_RX2_74 ht2 (by decide) (by decide) rfl dX2_load_17 ?_
      refine qv_iload (pc := 20) g dX2_load_20 rfl ?_
      refine qv_iload_n (pc := 22) g dX2_load_22 rfl rfl ?_
      refine qv_iconst (v := 3) (pc := 23) g dX2_load_23 (by decide) ?_
      refine qv_irem (pc := 24) g dX2_load_24 (by decide) ?_
      refine qv_iconst (v := 1) (pc := 25) g dX2_load_25 (by decide) ?_
      refine qv_isub (pc := 26) g dX2_load_26 ?_
      refine qv_i2l (pc := 27) g dX2_load_27 ?_
      refine qv_last (pc := 28) g h2 dX2_load_28 (fun M10 => ?_)
      refine qv_iload_n (pc := 29) g dX2_load_29 rfl rfl ?_
      refine qv_iconst (v := 3) (pc := 30) g dX2_load_30 (by decide) ?_
      refine qv_idiv (pc := 31) g dX2_load_31 (by decide) ?_
      refine qv_istore_n (pc := 32) (lv1 := [(3, .int (v6 / 3)), (2, .ref (X.2.2.2 + t2)), (4, .int v7)]) g dX2_load_32 rfl (by decide) rfl ?_
      refine qv_iinc (pc := 33) (v := (v7 + (-1))) (lv1 := [(4, .int (v7 + (-1))), (3, .int (v6 / 3)), (2, .ref (X.2.2.2 + t2))]) g dX2_load_33 rfl rfl (by decide) rfl ?_
      refine qv_goto (pc := 36) (tgt := 11) g dX2_load_36 (by decide) ?_
      refine qv_lv [2, 1, 0] rfl ?_
      exact qr9 _ _ _) _ _ _ _

set_option maxHeartbeats 4000000 in
set_option maxRecDepth 100000 in
theorem c_X2_findKey (l : Launch) (X : qv_X) (d : Nat) (T : List qv_Ent) (t : Nat) (p1 : Int32) (M : qv_Mem) {nt : Nat} (ht : qv_is (nt + 2) T 2 10 t) : qv_Ok l X yX2_findKey cX2_findKey 3 (some .int) (d) T M [.ref (X.2.2.2 + t), .int p1] (qv_eI M) (f_X2_findKey T t p1 M) := by
  refine qv_mk (lv := [(0, .ref (X.2.2.2 + t)), (1, .int p1)]) (by decide) (Nat.le_of_ble_eq_true rfl) rfl (fun G hG hRm g hr => ?_)
  have g : qv_ok G X cX2_findKey RX2 3 := g
  unfold f_X2_findKey
  refine qv_iconst (v := 0) (pc := 0) g dX2_findKey_0 (by decide) ?_
  refine qv_istore_n (pc := 1) (lv1 := [(2, .int 0), (0, .ref (X.2.2.2 + t)), (1, .int p1)]) g dX2_findKey_1 rfl (by decide) rfl ?_
  refine qv_join (fun (k1 : Unit → Option Int32) => ∀ (_ : Unit), qv_V G X 3 (qv_QM G X T (qv_eI M) (0, 0)) T (0, 0) 28 [] [] M (k1 ())) (fun _ => ?_) (fun k1 qk1 => ?_)
  · refine qv_bipush (v := (-2)) (pc := 28) g dX2_findKey_28 (by decide) ?_
    exact qv_iret (pc := 30) g hr rfl dX2_findKey_30
  refine qv_lv [1, 2, 0] rfl ?_
  exact qv_L1 (Vh := fun (v2 : Int32) o => qv_V G X 3 (qv_QM G X T (qv_eI M) (0, 0)) T (0, 0) 2 [(0, .ref (X.2.2.2 + t)), (1, .int p1), (2, .int v2)] [] M o) (fun _ => qv_none) (fun r3 qr3 v2 => by
    unfold b_X2_findKey_2
    refine qv_iload_n (pc := 2) g dX2_findKey_2 rfl rfl ?_
    refine qv_aload_n (pc := 3) g dX2_findKey_3 rfl rfl ?_
    refine qv_gets (pc := 4) g fw_RX2_40 ht (by decide) (by decide) rfl dX2_findKey_4 (fun v4 => ?_)
    refine qv_icmp_ge (pc := 7) (tgt := 28) g dX2_findKey_7 (by decide) ?_ ?_
    · refine qv_lv [] rfl ?_
      exact qk1 ()
    · refine qv_aload_n (pc := 10) g dX2_findKey_10 rfl rfl ?_
      have h1 : qv_is _ T 20 192 (qv_rf T t 0) := ht.to 0 (by decide) (by decide) rfl
      refine qv_getr (pc := 11) g fw_RX2_9 ht (by decide) (by decide) rfl dX2_findKey_11 ?_
      refine qv_iload_n (pc := 14) g dX2_findKey_14 rfl rfl ?_
      refine qv_iald (pc := 15) g h1 dX2_findKey_15 (fun v5 => ?_)
      refine qv_iload_n (pc := 16) g dX2_findKey_16 rfl rfl ?_
      refine qv_icmp_ne (pc := 17) (tgt := 22) g dX2_findKey_17 (by decide) ?_ ?_
      · refine qv_iinc (pc := 22) (v := (v2 + 1)) (lv1 := [(2, .int (v2 + 1)), (0, .ref (X.2.2.2 + t)), (1, .int p1)]) g dX2_findKey_22 rfl rfl (by decide) rfl ?_
        refine qv_goto (pc := 25) (tgt := 2) g dX2_findKey_25 (by decide) ?_
        refine qv_lv [1, 2, 0] rfl ?_
        exact qr3 _
      · refine qv_iload_n (pc := 20) g dX2_findKey_20 rfl rfl ?_
        exact qv_iret (pc := 21) g hr rfl dX2_findKey_21) _ _

set_option maxHeartbeats 4000000 in
set_option maxRecDepth 100000 in
theorem c_X2_reach (l : Launch) (X : qv_X) (d : Nat) (T : List qv_Ent) (t : Nat) (p1 : Int32) (p2 : Int32) (M : qv_Mem) {nt : Nat} (ht : qv_is (nt + 2) T 2 10 t) : qv_Ok l X yX2_reach cX2_reach 5 none (d + 3) T M [.ref (X.2.2.2 + t), .int p1, .int p2] qv_eV (f_X2_reach T t p1 p2 M) := by
  refine qv_mk (lv := [(0, .ref (X.2.2.2 + t)), (1, .int p1), (2, .int p2)]) (by decide) (Nat.le_of_ble_eq_true rfl) rfl (fun G hG hRm g hr => ?_)
  have g : qv_ok G X cX2_reach RX2 5 := g
  unfold f_X2_reach
  refine qv_aload_n (pc := 0) g dX2_reach_0 rfl rfl ?_
  refine qv_iload_n (pc := 1) g dX2_reach_1 rfl rfl ?_
  refine qv_aload_n (pc := 2) g dX2_reach_2 rfl rfl ?_
  have h1 : qv_is _ T 7 2 (qv_rf T t 7) := ht.to 7 (by decide) (by decide) rfl
  refine qv_getr (pc := 3) g fw_RX2_36 ht (by decide) (by decide) rfl dX2_reach_3 ?_
  refine qv_aV (qv_cv (pc := 6) g (c_X2_load (gl G) X (d + 2) T _ _ _ M ht h1) (qv_R hRm (by omega) (by decide)) ⟨Nat.zero_le _, Nat.zero_le _⟩ mw_X2_load lk_RX2_83 im_X2_load se_X2_load (by decide) rfl ht pd_X2_load rfl (Nat.le_of_ble_eq_true rfl) dX2_reach_6) (fun M1 => ?_)
  refine qv_aload_n (pc := 9) g dX2_reach_9 rfl rfl ?_
  refine qv_getr (pc := 10) g fw_RX2_36 ht (by decide) (by decide) rfl dX2_reach_10 ?_
  refine qv_iload_n (pc := 13) g dX2_reach_13 rfl rfl ?_
  refine qv_aV (qv_cv (pc := 14) g (c_X7_applyBehind (gl G) X d T _ _ M1 h1) (qv_R hRm (by omega) (by decide)) ⟨Nat.zero_le _, Nat.zero_le _⟩ mw_X7_applyBehind lk_RX2_87 im_X7_applyBehind se_X7_applyBehind (by decide) rfl h1 pd_X7_applyBehind rfl (Nat.le_of_ble_eq_true rfl) dX2_reach_14) (fun M2 => ?_)
  refine qv_aload_n (pc := 17) g dX2_reach_17 rfl rfl ?_
  refine qv_getr (pc := 18) g fw_RX2_36 ht (by decide) (by decide) rfl dX2_reach_18 ?_
  refine qv_aI rfl (qv_cs (pc := 21) g (c_X2_keyOf (gl G) X (d + 2) T _ M2 h1) (qv_R hRm (by omega) (by decide)) ⟨Nat.zero_le _, Nat.zero_le _⟩ mw_X2_keyOf lk_RX2_51 st_X2_keyOf pd_X2_keyOf rfl (Nat.le_of_ble_eq_true rfl) dX2_reach_21) (fun v3 => ?_)
  refine qv_istore_n (pc := 24) (lv1 := [(3, .int v3), (0, .ref (X.2.2.2 + t)), (1, .int p1), (2, .int p2)]) g dX2_reach_24 rfl (by decide) rfl ?_
  refine qv_aload_n (pc := 25) g dX2_reach_25 rfl rfl ?_
  refine qv_iload_n (pc := 26) g dX2_reach_26 rfl rfl ?_
  refine qv_aI rfl (qv_cv (pc := 27) g (c_X2_findKey (gl G) X (d + 2) T _ _ M2 ht) (qv_R hRm (by omega) (by decide)) ⟨Nat.zero_le _, Nat.zero_le _⟩ mw_X2_findKey lk_RX2_70 im_X2_findKey se_X2_findKey (by decide) rfl ht pd_X2_findKey rfl (Nat.le_of_ble_eq_true rfl) dX2_reach_27) (fun v4 => ?_)
  refine qv_istore (pc := 30) (lv1 := [(4, .int v4), (3, .int v3), (0, .ref (X.2.2.2 + t)), (1, .int p1), (2, .int p2)]) g dX2_reach_30 (by decide) rfl ?_
  refine qv_iload (pc := 32) g dX2_reach_32 rfl ?_
  refine qv_join (fun (k7 : Int32 → qv_Mem → Option qv_Mem) => ∀ (v5 : Int32) (M6 : qv_Mem), qv_V G X 5 (qv_QM G X T qv_eV (0, 0)) T (0, 0) 87 [(0, .ref (X.2.2.2 + t)), (1, .int p1), (2, .int p2), (4, .int v5)] [] M6 (k7 v5 M6)) (fun v5 M6 => ?_) (fun k7 qk7 => ?_)
  · refine qv_aload_n (pc := 87) g dX2_reach_87 rfl rfl ?_
    have h2 : qv_is _ T 20 1344 (qv_rf T t 1) := ht.to 1 (by decide) (by decide) rfl
    refine qv_getr (pc := 88) g fw_RX2_15 ht (by decide) (by decide) rfl dX2_reach_88 ?_
    refine qv_iload_n (pc := 91) g dX2_reach_91 rfl rfl ?_
    refine qv_bipush (v := 7) (pc := 92) g dX2_reach_92 (by decide) ?_
    refine qv_imul (pc := 94) g dX2_reach_94 ?_
    refine qv_iload_n (pc := 95) g dX2_reach_95 rfl rfl ?_
    refine qv_iadd (pc := 96) g dX2_reach_96 ?_
    refine qv_iload (pc := 97) g dX2_reach_97 rfl ?_
    refine qv_iconst (v := 0) (pc := 99) g dX2_reach_99 (by decide) ?_
    refine qv_mmax (pc := 100) g lk_RX2_90 st_math_max ini_math cd_math_max (Nat.le_of_ble_eq_true rfl) ⟨Nat.zero_le _, Nat.zero_le _⟩ dX2_reach_100 ?_
    refine qv_iast (pc := 103) g h2 dX2_reach_103 (fun M8 => ?_)
    exact qv_vret (pc := 104) g hr rfl dX2_reach_104
  refine qv_if_ge (pc := 34) (tgt := 87) g dX2_reach_34 (by decide) ?_ ?_
  · refine qv_lv [2, 3, 4, 0] rfl ?_
    exact qk7 _ _
  · refine qv_aload_n (pc := 37) g dX2_reach_37 rfl rfl ?_
    refine qv_gets (pc := 38) g fw_RX2_40 ht (by decide) (by decide) rfl dX2_reach_38 (fun v9 => ?_)
    refine qv_sipush (v := 192) (pc := 41) g dX2_reach_41 (by decide) ?_
    refine qv_icmp_ge (pc := 44) (tgt := 87) g dX2_reach_44 (by decide) ?_ ?_
    · refine qv_lv [2, 3, 4, 0] rfl ?_
      exact qk7 _ _
    · refine qv_aload_n (pc := 47) g dX2_reach_47 rfl rfl ?_
      refine qv_gets (pc := 48) g fw_RX2_40 ht (by decide) (by decide) rfl dX2_reach_48 (fun v10 => ?_)
      refine qv_istore (pc := 51) (lv1 := [(4, .int v10), (3, .int v3), (0, .ref (X.2.2.2 + t)), (1, .int p1), (2, .int p2)]) g dX2_reach_51 (by decide) rfl ?_
      refine qv_aload_n (pc := 53) g dX2_reach_53 rfl rfl ?_
      have h3 : qv_is _ T 20 192 (qv_rf T t 0) := ht.to 0 (by decide) (by decide) rfl
      refine qv_getr (pc := 54) g fw_RX2_9 ht (by decide) (by decide) rfl dX2_reach_54 ?_
      refine qv_iload (pc := 57) g dX2_reach_57 rfl ?_
      refine qv_iload_n (pc := 59) g dX2_reach_59 rfl rfl ?_
      refine qv_iast (pc := 60) g h3 dX2_reach_60 (fun M11 => ?_)
      refine qv_aload_n (pc := 61) g dX2_reach_61 rfl rfl ?_
      have h4 : qv_is _ T 20 192 (qv_rf T t 3) := ht.to 3 (by decide) (by decide) rfl
      refine qv_getr (pc := 62) g fw_RX2_21 ht (by decide) (by decide) rfl dX2_reach_62 ?_
      refine qv_iload (pc := 65) g dX2_reach_65 rfl ?_
      refine qv_iload_n (pc := 67) g dX2_reach_67 rfl rfl ?_
      refine qv_iast (pc := 68) g h4 dX2_reach_68 (fun M12 => ?_)
      refine qv_aload_n (pc := 69) g dX2_reach_69 rfl rfl ?_
      have h5 : qv_is _ T 20 192 (qv_rf T t 4) := ht.to 4 (by decide) (by decide) rfl
      refine qv_getr (pc := 70) g fw_RX2_24 ht (by decide) (by decide) rfl dX2_reach_70 ?_
      refine qv_iload (pc := 73) g dX2_reach_73 rfl ?_
      refine qv_iload_n (pc := 75) g dX2_reach_75 rfl rfl ?_
      refine qv_iast (pc := 76) g h5 dX2_reach_76 (fun M13 => ?_)
      refine qv_aload_n (pc := 77) g dX2_reach_77 rfl rfl ?_
      refine qv_dup (pc := 78) g dX2_reach_78 rfl ?_
      refine qv_gets (pc := 79) g fw_RX2_40 ht (by decide) (by decide) rfl dX2_reach_79 (fun v14 => ?_)
      refine qv_iconst (v := 1) (pc := 82) g dX2_reach_82 (by decide) ?_
      refine qv_iadd (pc := 83) g dX2_reach_83 ?_
      refine qv_puti (pc := 84) g pw_RX2_40 ht (by decide) (by decide) rfl dX2_reach_84 (fun M15 => ?_)
      refine qv_lv [2, 3, 4, 0] rfl ?_
      exact qk7 _ _

set_option maxHeartbeats 4000000 in
set_option maxRecDepth 100000 in
theorem c_X2_next (l : Launch) (X : qv_X) (d : Nat) (T : List qv_Ent) (t : Nat) (p1 : Int32) (p2 : Int32) (M : qv_Mem) {nt : Nat} (ht : qv_is (nt + 2) T 2 10 t) : qv_Ok l X yX2_next cX2_next 3 (some .int) (d) T M [.ref (X.2.2.2 + t), .int p1, .int p2] (qv_eI M) (f_X2_next T t p1 p2 M) := by
  refine qv_mk (lv := [(0, .ref (X.2.2.2 + t)), (1, .int p1), (2, .int p2)]) (by decide) (Nat.le_of_ble_eq_true rfl) rfl (fun G hG hRm g hr => ?_)
  have g : qv_ok G X cX2_next RX2 3 := g
  unfold f_X2_next
  refine qv_aload_n (pc := 0) g dX2_next_0 rfl rfl ?_
  have h1 : qv_is _ T 20 1344 (qv_rf T t 1) := ht.to 1 (by decide) (by decide) rfl
  refine qv_getr (pc := 1) g fw_RX2_15 ht (by decide) (by decide) rfl dX2_next_1 ?_
  refine qv_iload_n (pc := 4) g dX2_next_4 rfl rfl ?_
  refine qv_bipush (v := 7) (pc := 5) g dX2_next_5 (by decide) ?_
  refine qv_imul (pc := 7) g dX2_next_7 ?_
  refine qv_iload_n (pc := 8) g dX2_next_8 rfl rfl ?_
  refine qv_iadd (pc := 9) g dX2_next_9 ?_
  refine qv_iald (pc := 10) g h1 dX2_next_10 (fun v1 => ?_)
  exact qv_iret (pc := 11) g hr rfl dX2_next_11

set_option maxHeartbeats 4000000 in
set_option maxRecDepth 100000 in
theorem c_X2_fillWithout (l : Launch) (X : qv_X) (d : Nat) (T : List qv_Ent) (t : Nat) (p1 : Int32) (M : qv_Mem) {nt : Nat} (ht : qv_is (nt + 2) T 2 10 t) : qv_Ok l X yX2_fillWithout cX2_fillWithout 3 none (d + 1) T M [.ref (X.2.2.2 + t), .int p1] qv_eV (f_X2_fillWithout T t p1 M) := by
  refine qv_mk (lv := [(0, .ref (X.2.2.2 + t)), (1, .int p1)]) (by decide) (Nat.le_of_ble_eq_true rfl) rfl (fun G hG hRm g hr => ?_)
  have g : qv_ok G X cX2_fillWithout RX2 3 := g
  unfold f_X2_fillWithout
  refine qv_iconst (v := 0) (pc := 0) g dX2_fillWithout_0 (by decide) ?_
  refine qv_istore_n (pc := 1) (lv1 := [(2, .int 0), (0, .ref (X.2.2.2 + t)), (1, .int p1)]) g dX2_fillWithout_1 rfl (by decide) rfl ?_
  refine qv_join (fun (k2 : qv_Mem → Option qv_Mem) => ∀ (M1 : qv_Mem), qv_V G X 3 (qv_QM G X T qv_eV (0, 0)) T (0, 0) 36 [(0, .ref (X.2.2.2 + t)), (1, .int p1)] [] M1 (k2 M1)) (fun M1 => ?_) (fun k2 qk2 => ?_)
  · refine qv_iconst (v := 1) (pc := 36) g dX2_fillWithout_36 (by decide) ?_
    refine qv_istore_n (pc := 37) (lv1 := [(2, .int 1), (0, .ref (X.2.2.2 + t)), (1, .int p1)]) g dX2_fillWithout_37 rfl (by decide) rfl ?_
    refine qv_join (fun (k4 : qv_Mem → Option qv_Mem) => ∀ (M3 : qv_Mem), qv_V G X 3 (qv_QM G X T qv_eV (0, 0)) T (0, 0) 88 [] [] M3 (k4 M3)) (fun M3 => ?_) (fun k4 qk4 => ?_)
    · exact qv_vret (pc := 88) g hr rfl dX2_fillWithout_88
    refine qv_lv [1, 2, 0] rfl ?_
    exact qv_L2 (Vh := fun (v5 : Int32) (M6 : qv_Mem) o => qv_V G X 3 (qv_QM G X T qv_eV (0, 0)) T (0, 0) 38 [(0, .ref (X.2.2.2 + t)), (1, .int p1), (2, .int v5)] [] M6 o) (fun _ _ => qv_none) (fun r7 qr7 v5 M6 => by
      unfold b_X2_fillWithout_38
      refine qv_iload_n (pc := 38) g dX2_fillWithout_38 rfl rfl ?_
      refine qv_sipush (v := 192) (pc := 39) g dX2_fillWithout_39 (by decide) ?_
      refine qv_icmp_ge (pc := 42) (tgt := 88) g dX2_fillWithout_42 (by decide) ?_ ?_
      · refine qv_lv [] rfl ?_
        exact qk4 _
      · refine qv_aload_n (pc := 45) g dX2_fillWithout_45 rfl rfl ?_
        have h1 : qv_is _ T 20 1344 (qv_rf T t 2) := ht.to 2 (by decide) (by decide) rfl
        refine qv_getr (pc := 46) g fw_RX2_18 ht (by decide) (by decide) rfl dX2_fillWithout_46 ?_
        refine qv_iload_n (pc := 49) g dX2_fillWithout_49 rfl rfl ?_
        refine qv_bipush (v := 7) (pc := 50) g dX2_fillWithout_50 (by decide) ?_
        refine qv_imul (pc := 52) g dX2_fillWithout_52 ?_
        refine qv_iload_n (pc := 53) g dX2_fillWithout_53 rfl rfl ?_
        refine qv_iadd (pc := 54) g dX2_fillWithout_54 ?_
        refine qv_aload_n (pc := 55) g dX2_fillWithout_55 rfl rfl ?_
        refine qv_aload_n (pc := 56) g dX2_fillWithout_56 rfl rfl ?_
        refine qv_getr (pc := 57) g fw_RX2_18 ht (by decide) (by decide) rfl dX2_fillWithout_57 ?_
        refine qv_aload_n (pc := 60) g dX2_fillWithout_60 rfl rfl ?_
        have h2 : qv_is _ T 20 192 (qv_rf T t 3) := ht.to 3 (by decide) (by decide) rfl
        refine qv_getr (pc := 61) g fw_RX2_21 ht (by decide) (by decide) rfl dX2_fillWithout_61 ?_
        refine qv_iload_n (pc := 64) g dX2_fillWithout_64 rfl rfl ?_
        refine qv_iald (pc := 65) g h2 dX2_fillWithout_65 (fun v8 => ?_)
        refine qv_bipush (v := 7) (pc := 66) g dX2_fillWithout_66 (by decide) ?_
        refine qv_imul (pc := 68) g dX2_fillWithout_68 ?_
        refine qv_iload_n (pc := 69) g dX2_fillWithout_69 rfl rfl ?_
        refine qv_iadd (pc := 70) g dX2_fillWithout_70 ?_
        refine qv_iald (pc := 71) g h1 dX2_fillWithout_71 (fun v9 => ?_)
        refine qv_aload_n (pc := 72) g dX2_fillWithout_72 rfl rfl ?_
        have h3 : qv_is _ T 20 192 (qv_rf T t 4) := ht.to 4 (by decide) (by decide) rfl
        refine qv_getr (pc := 73) g fw_RX2_24 ht (by decide) (by decide) rfl dX2_fillWithout_73 ?_
        refine qv_iload_n (pc := 76) g dX2_fillWithout_76 rfl rfl ?_
        refine qv_iald (pc := 77) g h3 dX2_fillWithout_77 (fun v10 => ?_)
        refine qv_aI rfl (qv_cv (pc := 78) g (c_X2_next (gl G) X d T _ _ _ M6 ht) (qv_R hRm (by omega) (by decide)) ⟨Nat.zero_le _, Nat.zero_le _⟩ mw_X2_next lk_RX2_59 im_X2_next se_X2_next (by decide) rfl ht pd_X2_next rfl (Nat.le_of_ble_eq_true rfl) dX2_fillWithout_78) (fun v11 => ?_)
        refine qv_iast (pc := 81) g h1 dX2_fillWithout_81 (fun M12 => ?_)
        refine qv_iinc (pc := 82) (v := (v5 + 1)) (lv1 := [(2, .int (v5 + 1)), (0, .ref (X.2.2.2 + t)), (1, .int p1)]) g dX2_fillWithout_82 rfl rfl (by decide) rfl ?_
        refine qv_goto (pc := 85) (tgt := 38) g dX2_fillWithout_85 (by decide) ?_
        refine qv_lv [1, 2, 0] rfl ?_
        exact qr7 _ _) _ _ _
  refine qv_lv [1, 2, 0] rfl ?_
  exact qv_L2 (Vh := fun (v13 : Int32) (M14 : qv_Mem) o => qv_V G X 3 (qv_QM G X T qv_eV (0, 0)) T (0, 0) 2 [(0, .ref (X.2.2.2 + t)), (1, .int p1), (2, .int v13)] [] M14 o) (fun _ _ => qv_none) (fun r15 qr15 v13 M14 => by
    unfold b_X2_fillWithout_2
    refine qv_iload_n (pc := 2) g dX2_fillWithout_2 rfl rfl ?_
    refine qv_sipush (v := 192) (pc := 3) g dX2_fillWithout_3 (by decide) ?_
    refine qv_icmp_ge (pc := 6) (tgt := 36) g dX2_fillWithout_6 (by decide) ?_ ?_
    · refine qv_lv [0, 1] rfl ?_
      exact qk2 _
    · refine qv_aload_n (pc := 9) g dX2_fillWithout_9 rfl rfl ?_
      have h4 : qv_is _ T 20 1344 (qv_rf T t 1) := ht.to 1 (by decide) (by decide) rfl
      refine qv_getr (pc := 10) g fw_RX2_15 ht (by decide) (by decide) rfl dX2_fillWithout_10 ?_
      refine qv_iload_n (pc := 13) g dX2_fillWithout_13 rfl rfl ?_
      refine qv_bipush (v := 7) (pc := 14) g dX2_fillWithout_14 (by decide) ?_
      refine qv_imul (pc := 16) g dX2_fillWithout_16 ?_
      refine qv_iload_n (pc := 17) g dX2_fillWithout_17 rfl rfl ?_
      refine qv_iadd (pc := 18) g dX2_fillWithout_18 ?_
      refine qv_iald (pc := 19) g h4 dX2_fillWithout_19 (fun v16 => ?_)
      refine qv_join (fun (k18 : qv_Mem → Option qv_Mem) => ∀ (M17 : qv_Mem), qv_V G X 3 (qv_QM G X T qv_eV (0, 0)) T (0, 0) 30 [(0, .ref (X.2.2.2 + t)), (1, .int p1), (2, .int v13)] [] M17 (k18 M17)) (fun M17 => ?_) (fun k18 qk18 => ?_)
      · refine qv_iinc (pc := 30) (v := (v13 + 1)) (lv1 := [(2, .int (v13 + 1)), (0, .ref (X.2.2.2 + t)), (1, .int p1)]) g dX2_fillWithout_30 rfl rfl (by decide) rfl ?_
        refine qv_goto (pc := 33) (tgt := 2) g dX2_fillWithout_33 (by decide) ?_
        refine qv_lv [1, 2, 0] rfl ?_
        exact qr15 _ _
      refine qv_if_ne (pc := 20) (tgt := 30) g dX2_fillWithout_20 (by decide) ?_ ?_
      · exact qk18 _
      · refine qv_aload_n (pc := 23) g dX2_fillWithout_23 rfl rfl ?_
        have h5 : qv_is _ T 20 1344 (qv_rf T t 2) := ht.to 2 (by decide) (by decide) rfl
        refine qv_getr (pc := 24) g fw_RX2_18 ht (by decide) (by decide) rfl dX2_fillWithout_24 ?_
        refine qv_iload_n (pc := 27) g dX2_fillWithout_27 rfl rfl ?_
        refine qv_iload_n (pc := 28) g dX2_fillWithout_28 rfl rfl ?_
        refine qv_iast (pc := 29) g h5 dX2_fillWithout_29 (fun M19 => ?_)
        exact qk18 _) _ _ _

set_option maxHeartbeats 4000000 in
set_option maxRecDepth 100000 in
theorem c_X2_prepare (l : Launch) (X : qv_X) (d : Nat) (T : List qv_Ent) (t : Nat) (M : qv_Mem) {nt : Nat} (ht : qv_is (nt + 2) T 2 10 t) : qv_Ok l X yX2_prepare cX2_prepare 5 none (d + 4) T M [.ref (X.2.2.2 + t)] qv_eV (f_X2_prepare T t M) := by
  refine qv_mk (lv := [(0, .ref (X.2.2.2 + t))]) (by decide) (Nat.le_of_ble_eq_true rfl) rfl (fun G hG hRm g hr => ?_)
  have g : qv_ok G X cX2_prepare RX2 5 := g
  unfold f_X2_prepare
  refine qv_aload_n (pc := 0) g dX2_prepare_0 rfl rfl ?_
  refine qv_gets (pc := 1) g fw_RX2_40 ht (by decide) (by decide) rfl dX2_prepare_1 (fun v1 => ?_)
  refine qv_if_le (pc := 4) (tgt := 8) g dX2_prepare_4 (by decide) ?_ ?_
  · refine qv_aload_n (pc := 8) g dX2_prepare_8 rfl rfl ?_
    have h1 : qv_is _ T 7 2 (qv_rf T t 7) := ht.to 7 (by decide) (by decide) rfl
    refine qv_getr (pc := 9) g fw_RX2_36 ht (by decide) (by decide) rfl dX2_prepare_9 ?_
    refine qv_aV (qv_cv (pc := 12) g (c_X7_makeUnit (gl G) X (d + 2) T _ M h1) (qv_R hRm (by omega) (by decide)) ⟨Nat.zero_le _, Nat.zero_le _⟩ mw_X7_makeUnit lk_RX2_48 im_X7_makeUnit se_X7_makeUnit (by decide) rfl h1 pd_X7_makeUnit rfl (Nat.le_of_ble_eq_true rfl) dX2_prepare_12) (fun M2 => ?_)
    refine qv_aload_n (pc := 15) g dX2_prepare_15 rfl rfl ?_
    have h2 : qv_is _ T 20 192 (qv_rf T t 0) := ht.to 0 (by decide) (by decide) rfl
    refine qv_getr (pc := 16) g fw_RX2_9 ht (by decide) (by decide) rfl dX2_prepare_16 ?_
    refine qv_iconst (v := 0) (pc := 19) g dX2_prepare_19 (by decide) ?_
    refine qv_aload_n (pc := 20) g dX2_prepare_20 rfl rfl ?_
    refine qv_getr (pc := 21) g fw_RX2_36 ht (by decide) (by decide) rfl dX2_prepare_21 ?_
    refine qv_aI rfl (qv_cs (pc := 24) g (c_X2_keyOf (gl G) X (d + 3) T _ M2 h1) (qv_R hRm (by omega) (by decide)) ⟨Nat.zero_le _, Nat.zero_le _⟩ mw_X2_keyOf lk_RX2_51 st_X2_keyOf pd_X2_keyOf rfl (Nat.le_of_ble_eq_true rfl) dX2_prepare_24) (fun v3 => ?_)
    refine qv_iast (pc := 27) g h2 dX2_prepare_27 (fun M4 => ?_)
    refine qv_aload_n (pc := 28) g dX2_prepare_28 rfl rfl ?_
    refine qv_iconst (v := 1) (pc := 29) g dX2_prepare_29 (by decide) ?_
    refine qv_puti (pc := 30) g pw_RX2_40 ht (by decide) (by decide) rfl dX2_prepare_30 (fun M5 => ?_)
    refine qv_iconst (v := 0) (pc := 33) g dX2_prepare_33 (by decide) ?_
    refine qv_istore_n (pc := 34) (lv1 := [(1, .int 0), (0, .ref (X.2.2.2 + t))]) g dX2_prepare_34 rfl (by decide) rfl ?_
    refine qv_join (fun (k7 : qv_Mem → Option qv_Mem) => ∀ (M6 : qv_Mem), qv_V G X 5 (qv_QM G X T qv_eV (0, 0)) T (0, 0) 74 [(0, .ref (X.2.2.2 + t))] [] M6 (k7 M6)) (fun M6 => ?_) (fun k7 qk7 => ?_)
    · refine qv_iconst (v := 0) (pc := 74) g dX2_prepare_74 (by decide) ?_
      refine qv_istore_n (pc := 75) (lv1 := [(1, .int 0), (0, .ref (X.2.2.2 + t))]) g dX2_prepare_75 rfl (by decide) rfl ?_
      refine qv_join (fun (k9 : qv_Mem → Option qv_Mem) => ∀ (M8 : qv_Mem), qv_V G X 5 (qv_QM G X T qv_eV (0, 0)) T (0, 0) 111 [(0, .ref (X.2.2.2 + t))] [] M8 (k9 M8)) (fun M8 => ?_) (fun k9 qk9 => ?_)
      · refine qv_iconst (v := 0) (pc := 111) g dX2_prepare_111 (by decide) ?_
        refine qv_istore_n (pc := 112) (lv1 := [(1, .int 0), (0, .ref (X.2.2.2 + t))]) g dX2_prepare_112 rfl (by decide) rfl ?_
        refine qv_join (fun (k11 : qv_Mem → Option qv_Mem) => ∀ (M10 : qv_Mem), qv_V G X 5 (qv_QM G X T qv_eV (0, 0)) T (0, 0) 153 [(0, .ref (X.2.2.2 + t))] [] M10 (k11 M10)) (fun M10 => ?_) (fun k11 qk11 => ?_)
        · refine qv_gst (pc := 153) g fs_RX2_63 dX2_prepare_153 ?_
          refine qv_astore_n (pc := 156) (lv1 := [(1, .ref X.2.2.1), (0, .ref (X.2.2.2 + t))]) g dX2_prepare_156 rfl (by decide) rfl ?_
          refine qv_aload_n (pc := 157) g dX2_prepare_157 rfl rfl ?_
          refine qv_plen (pc := 158) g dX2_prepare_158 ?_
          refine qv_istore_n (pc := 159) (lv1 := [(2, .int 5), (1, .ref X.2.2.1), (0, .ref (X.2.2.2 + t))]) g dX2_prepare_159 rfl (by decide) rfl ?_
          refine qv_iconst (v := 0) (pc := 160) g dX2_prepare_160 (by decide) ?_
          refine qv_istore_n (pc := 161) (lv1 := [(3, .int 0), (2, .int 5), (1, .ref X.2.2.1), (0, .ref (X.2.2.2 + t))]) g dX2_prepare_161 rfl (by decide) rfl ?_
          refine qv_join (fun (k13 : qv_Mem → Option qv_Mem) => ∀ (M12 : qv_Mem), qv_V G X 5 (qv_QM G X T qv_eV (0, 0)) T (0, 0) 184 [] [] M12 (k13 M12)) (fun M12 => ?_) (fun k13 qk13 => ?_)
          · exact qv_vret (pc := 184) g hr rfl dX2_prepare_184
          refine qv_lv [3, 2, 1, 0] rfl ?_
          exact qv_L2 (Vh := fun (v14 : Int32) (M15 : qv_Mem) o => qv_V G X 5 (qv_QM G X T qv_eV (0, 0)) T (0, 0) 162 [(0, .ref (X.2.2.2 + t)), (1, .ref X.2.2.1), (2, .int 5), (3, .int v14)] [] M15 o) (fun _ _ => qv_none) (fun r16 qr16 v14 M15 => by
            unfold b_X2_prepare_162
            refine qv_iload_n (pc := 162) g dX2_prepare_162 rfl rfl ?_
            refine qv_iload_n (pc := 163) g dX2_prepare_163 rfl rfl ?_
            refine qv_icmp_ge (pc := 164) (tgt := 184) g dX2_prepare_164 (by decide) ?_ ?_
            · refine qv_lv [] rfl ?_
              exact qk13 _
            · refine qv_aload_n (pc := 167) g dX2_prepare_167 rfl rfl ?_
              refine qv_iload_n (pc := 168) g dX2_prepare_168 rfl rfl ?_
              refine qv_pald (pc := 169) g dX2_prepare_169 (fun v17 => ?_)
              refine qv_istore (pc := 170) (lv1 := [(4, .int v17), (0, .ref (X.2.2.2 + t)), (1, .ref X.2.2.1), (2, .int 5), (3, .int v14)]) g dX2_prepare_170 (by decide) rfl ?_
              refine qv_aload_n (pc := 172) g dX2_prepare_172 rfl rfl ?_
              refine qv_iload (pc := 173) g dX2_prepare_173 rfl ?_
              refine qv_aV (qv_cv (pc := 175) g (c_X2_fillWithout (gl G) X (d + 2) T _ _ M15 ht) (qv_R hRm (by omega) (by decide)) ⟨Nat.zero_le _, Nat.zero_le _⟩ mw_X2_fillWithout lk_RX2_66 im_X2_fillWithout se_X2_fillWithout (by decide) rfl ht pd_X2_fillWithout rfl (Nat.le_of_ble_eq_true rfl) dX2_prepare_175) (fun M18 => ?_)
              refine qv_iinc (pc := 178) (v := (v14 + 1)) (lv1 := [(3, .int (v14 + 1)), (4, .int v17), (0, .ref (X.2.2.2 + t)), (1, .ref X.2.2.1), (2, .int 5)]) g dX2_prepare_178 rfl rfl (by decide) rfl ?_
              refine qv_goto (pc := 181) (tgt := 162) g dX2_prepare_181 (by decide) ?_
              refine qv_lv [2, 3, 4, 0] rfl ?_
              exact qr16 _ _) _ _ _
        refine qv_lv [1, 0] rfl ?_
        exact qv_L2 (Vh := fun (v19 : Int32) (M20 : qv_Mem) o => qv_V G X 5 (qv_QM G X T qv_eV (0, 0)) T (0, 0) 113 [(0, .ref (X.2.2.2 + t)), (1, .int v19)] [] M20 o) (fun _ _ => qv_none) (fun r21 qr21 v19 M20 => by
          unfold b_X2_prepare_113
          refine qv_iload_n (pc := 113) g dX2_prepare_113 rfl rfl ?_
          refine qv_sipush (v := 192) (pc := 114) g dX2_prepare_114 (by decide) ?_
          refine qv_icmp_ge (pc := 117) (tgt := 153) g dX2_prepare_117 (by decide) ?_ ?_
          · refine qv_lv [0] rfl ?_
            exact qk11 _
          · refine qv_aload_n (pc := 120) g dX2_prepare_120 rfl rfl ?_
            have h3 : qv_is _ T 20 1344 (qv_rf T t 1) := ht.to 1 (by decide) (by decide) rfl
            refine qv_getr (pc := 121) g fw_RX2_15 ht (by decide) (by decide) rfl dX2_prepare_121 ?_
            refine qv_iload_n (pc := 124) g dX2_prepare_124 rfl rfl ?_
            refine qv_bipush (v := 7) (pc := 125) g dX2_prepare_125 (by decide) ?_
            refine qv_imul (pc := 127) g dX2_prepare_127 ?_
            refine qv_iconst (v := 3) (pc := 128) g dX2_prepare_128 (by decide) ?_
            refine qv_iadd (pc := 129) g dX2_prepare_129 ?_
            refine qv_aload_n (pc := 130) g dX2_prepare_130 rfl rfl ?_
            refine qv_aload_n (pc := 131) g dX2_prepare_131 rfl rfl ?_
            refine qv_aload_n (pc := 132) g dX2_prepare_132 rfl rfl ?_
            refine qv_iload_n (pc := 133) g dX2_prepare_133 rfl rfl ?_
            refine qv_iconst (v := 0) (pc := 134) g dX2_prepare_134 (by decide) ?_
            refine qv_aI rfl (qv_cv (pc := 135) g (c_X2_next (gl G) X (d + 3) T _ _ _ M20 ht) (qv_R hRm (by omega) (by decide)) ⟨Nat.zero_le _, Nat.zero_le _⟩ mw_X2_next lk_RX2_59 im_X2_next se_X2_next (by decide) rfl ht pd_X2_next rfl (Nat.le_of_ble_eq_true rfl) dX2_prepare_135) (fun v22 => ?_)
            refine qv_iconst (v := 4) (pc := 138) g dX2_prepare_138 (by decide) ?_
            refine qv_aI rfl (qv_cv (pc := 139) g (c_X2_next (gl G) X (d + 3) T _ _ _ M20 ht) (qv_R hRm (by omega) (by decide)) ⟨Nat.zero_le _, Nat.zero_le _⟩ mw_X2_next lk_RX2_59 im_X2_next se_X2_next (by decide) rfl ht pd_X2_next rfl (Nat.le_of_ble_eq_true rfl) dX2_prepare_139) (fun v23 => ?_)
            refine qv_iconst (v := 0) (pc := 142) g dX2_prepare_142 (by decide) ?_
            refine qv_aI rfl (qv_cv (pc := 143) g (c_X2_next (gl G) X (d + 3) T _ _ _ M20 ht) (qv_R hRm (by omega) (by decide)) ⟨Nat.zero_le _, Nat.zero_le _⟩ mw_X2_next lk_RX2_59 im_X2_next se_X2_next (by decide) rfl ht pd_X2_next rfl (Nat.le_of_ble_eq_true rfl) dX2_prepare_143) (fun v24 => ?_)
            refine qv_iast (pc := 146) g h3 dX2_prepare_146 (fun M25 => ?_)
            refine qv_iinc (pc := 147) (v := (v19 + 1)) (lv1 := [(1, .int (v19 + 1)), (0, .ref (X.2.2.2 + t))]) g dX2_prepare_147 rfl rfl (by decide) rfl ?_
            refine qv_goto (pc := 150) (tgt := 113) g dX2_prepare_150 (by decide) ?_
            refine qv_lv [1, 0] rfl ?_
            exact qr21 _ _) _ _ _
      refine qv_lv [1, 0] rfl ?_
      exact qv_L2 (Vh := fun (v26 : Int32) (M27 : qv_Mem) o => qv_V G X 5 (qv_QM G X T qv_eV (0, 0)) T (0, 0) 76 [(0, .ref (X.2.2.2 + t)), (1, .int v26)] [] M27 o) (fun _ _ => qv_none) (fun r28 qr28 v26 M27 => by
        unfold b_X2_prepare_76
        refine qv_iload_n (pc := 76) g dX2_prepare_76 rfl rfl ?_
        refine qv_sipush (v := 192) (pc := 77) g dX2_prepare_77 (by decide) ?_
        refine qv_icmp_ge (pc := 80) (tgt := 111) g dX2_prepare_80 (by decide) ?_ ?_
        · refine qv_lv [0] rfl ?_
          exact qk9 _
        · refine qv_aload_n (pc := 83) g dX2_prepare_83 rfl rfl ?_
          have h4 : qv_is _ T 20 1344 (qv_rf T t 1) := ht.to 1 (by decide) (by decide) rfl
          refine qv_getr (pc := 84) g fw_RX2_15 ht (by decide) (by decide) rfl dX2_prepare_84 ?_
          refine qv_iload_n (pc := 87) g dX2_prepare_87 rfl rfl ?_
          refine qv_bipush (v := 7) (pc := 88) g dX2_prepare_88 (by decide) ?_
          refine qv_imul (pc := 90) g dX2_prepare_90 ?_
          refine qv_iconst (v := 4) (pc := 91) g dX2_prepare_91 (by decide) ?_
          refine qv_iadd (pc := 92) g dX2_prepare_92 ?_
          refine qv_aload_n (pc := 93) g dX2_prepare_93 rfl rfl ?_
          refine qv_aload_n (pc := 94) g dX2_prepare_94 rfl rfl ?_
          refine qv_iload_n (pc := 95) g dX2_prepare_95 rfl rfl ?_
          refine qv_iconst (v := 2) (pc := 96) g dX2_prepare_96 (by decide) ?_
          refine qv_aI rfl (qv_cv (pc := 97) g (c_X2_next (gl G) X (d + 3) T _ _ _ M27 ht) (qv_R hRm (by omega) (by decide)) ⟨Nat.zero_le _, Nat.zero_le _⟩ mw_X2_next lk_RX2_59 im_X2_next se_X2_next (by decide) rfl ht pd_X2_next rfl (Nat.le_of_ble_eq_true rfl) dX2_prepare_97) (fun v29 => ?_)
          refine qv_iconst (v := 2) (pc := 100) g dX2_prepare_100 (by decide) ?_
          refine qv_aI rfl (qv_cv (pc := 101) g (c_X2_next (gl G) X (d + 3) T _ _ _ M27 ht) (qv_R hRm (by omega) (by decide)) ⟨Nat.zero_le _, Nat.zero_le _⟩ mw_X2_next lk_RX2_59 im_X2_next se_X2_next (by decide) rfl ht pd_X2_next rfl (Nat.le_of_ble_eq_true rfl) dX2_prepare_101) (fun v30 => ?_)
          refine qv_iast (pc := 104) g h4 dX2_prepare_104 (fun M31 => ?_)
          refine qv_iinc (pc := 105) (v := (v26 + 1)) (lv1 := [(1, .int (v26 + 1)), (0, .ref (X.2.2.2 + t))]) g dX2_prepare_105 rfl rfl (by decide) rfl ?_
          refine qv_goto (pc := 108) (tgt := 76) g dX2_prepare_108 (by decide) ?_
          refine qv_lv [1, 0] rfl ?_
          exact qr28 _ _) _ _ _
    refine qv_lv [1, 0] rfl ?_
    exact qv_L2 (Vh := fun (v32 : Int32) (M33 : qv_Mem) o => qv_V G X 5 (qv_QM G X T qv_eV (0, 0)) T (0, 0) 35 [(0, .ref (X.2.2.2 + t)), (1, .int v32)] [] M33 o) (fun _ _ => qv_none) (fun r34 qr34 v32 M33 => by
      unfold b_X2_prepare_35
      refine qv_iload_n (pc := 35) g dX2_prepare_35 rfl rfl ?_
      refine qv_aload_n (pc := 36) g dX2_prepare_36 rfl rfl ?_
      refine qv_gets (pc := 37) g fw_RX2_40 ht (by decide) (by decide) rfl dX2_prepare_37 (fun v35 => ?_)
      refine qv_icmp_ge (pc := 40) (tgt := 74) g dX2_prepare_40 (by decide) ?_ ?_
      · refine qv_lv [0] rfl ?_
        exact qk7 _
      · refine qv_iload_n (pc := 43) g dX2_prepare_43 rfl rfl ?_
        refine qv_sipush (v := 192) (pc := 44) g dX2_prepare_44 (by decide) ?_
        refine qv_icmp_ge (pc := 47) (tgt := 74) g dX2_prepare_47 (by decide) ?_ ?_
        · refine qv_lv [0] rfl ?_
          exact qk7 _
        · refine qv_aload_n (pc := 50) g dX2_prepare_50 rfl rfl ?_
          refine qv_iload_n (pc := 51) g dX2_prepare_51 rfl rfl ?_
          refine qv_iconst (v := 0) (pc := 52) g dX2_prepare_52 (by decide) ?_
          refine qv_aV (qv_cv (pc := 53) g (c_X2_reach (gl G) X d T _ _ _ M33 ht) (qv_R hRm (by omega) (by decide)) ⟨Nat.zero_le _, Nat.zero_le _⟩ mw_X2_reach lk_RX2_55 im_X2_reach se_X2_reach (by decide) rfl ht pd_X2_reach rfl (Nat.le_of_ble_eq_true rfl) dX2_prepare_53) (fun M36 => ?_)
          refine qv_aload_n (pc := 56) g dX2_prepare_56 rfl rfl ?_
          refine qv_iload_n (pc := 57) g dX2_prepare_57 rfl rfl ?_
          refine qv_iconst (v := 2) (pc := 58) g dX2_prepare_58 (by decide) ?_
          refine qv_aV (qv_cv (pc := 59) g (c_X2_reach (gl G) X d T _ _ _ M36 ht) (qv_R hRm (by omega) (by decide)) ⟨Nat.zero_le _, Nat.zero_le _⟩ mw_X2_reach lk_RX2_55 im_X2_reach se_X2_reach (by decide) rfl ht pd_X2_reach rfl (Nat.le_of_ble_eq_true rfl) dX2_prepare_59) (fun M37 => ?_)
          refine qv_aload_n (pc := 62) g dX2_prepare_62 rfl rfl ?_
          refine qv_iload_n (pc := 63) g dX2_prepare_63 rfl rfl ?_
          refine qv_iconst (v := 5) (pc := 64) g dX2_prepare_64 (by decide) ?_
          refine qv_aV (qv_cv (pc := 65) g (c_X2_reach (gl G) X d T _ _ _ M37 ht) (qv_R hRm (by omega) (by decide)) ⟨Nat.zero_le _, Nat.zero_le _⟩ mw_X2_reach lk_RX2_55 im_X2_reach se_X2_reach (by decide) rfl ht pd_X2_reach rfl (Nat.le_of_ble_eq_true rfl) dX2_prepare_65) (fun M38 => ?_)
          refine qv_iinc (pc := 68) (v := (v32 + 1)) (lv1 := [(1, .int (v32 + 1)), (0, .ref (X.2.2.2 + t))]) g dX2_prepare_68 rfl rfl (by decide) rfl ?_
          refine qv_goto (pc := 71) (tgt := 35) g dX2_prepare_71 (by decide) ?_
          refine qv_lv [1, 0] rfl ?_
          exact qr34 _ _) _ _ _
  · exact qv_vret (pc := 7) g hr rfl dX2_prepare_7

set_option maxHeartbeats 4000000 in
set_option maxRecDepth 100000 in
theorem c_X2_find (l : Launch) (X : qv_X) (d : Nat) (T : List qv_Ent) (t : Nat) (t1 : Nat) (M : qv_Mem) {nt : Nat} (ht : qv_is (nt + 2) T 2 10 t) {nt1 : Nat} (ht1 : qv_is (nt1 + 1) T 7 2 t1) : qv_Ok l X yX2_find cX2_find 2 (some .int) (d + 1) T M [.ref (X.2.2.2 + t), .ref (X.2.2.2 + t1)] (qv_eI M) (f_X2_find T t t1 M) := by
  refine qv_mk (lv := [(0, .ref (X.2.2.2 + t)), (1, .ref (X.2.2.2 + t1))]) (by decide) (Nat.le_of_ble_eq_true rfl) rfl (fun G hG hRm g hr => ?_)
  have g : qv_ok G X cX2_find RX2 2 := g
  unfold f_X2_find
  refine qv_aload_n (pc := 0) g dX2_find_0 rfl rfl ?_
  refine qv_aload_n (pc := 1) g dX2_find_1 rfl rfl ?_
  refine qv_aI rfl (qv_cs (pc := 2) g (c_X2_keyOf (gl G) X d T _ M ht1) (qv_R hRm (by omega) (by decide)) ⟨Nat.zero_le _, Nat.zero_le _⟩ mw_X2_keyOf lk_RX2_51 st_X2_keyOf pd_X2_keyOf rfl (Nat.le_of_ble_eq_true rfl) dX2_find_2) (fun v1 => ?_)
  refine qv_aI rfl (qv_cv (pc := 5) g (c_X2_findKey (gl G) X d T _ _ M ht) (qv_R hRm (by omega) (by decide)) ⟨Nat.zero_le _, Nat.zero_le _⟩ mw_X2_findKey lk_RX2_70 im_X2_findKey se_X2_findKey (by decide) rfl ht pd_X2_findKey rfl (Nat.le_of_ble_eq_true rfl) dX2_find_5) (fun v2 => ?_)
  exact qv_iret (pc := 8) g hr rfl dX2_find_8

set_option maxHeartbeats 4000000 in
set_option maxRecDepth 100000 in
theorem c_X9_clifford (l : Launch) (X : qv_X) (d : Nat) (T : List qv_Ent) (t : Nat) (p1 : Int32) (M : qv_Mem) {nt : Nat} (ht : qv_is (nt + 4) T 9 14 t) : qv_Ok l X yX9_clifford cX9_clifford 2 (some .int) (d + 5) T M [.ref (X.2.2.2 + t), .int p1] qv_eIM (f_X9_clifford T t p1 M) := by
  refine qv_mk (lv := [(0, .ref (X.2.2.2 + t)), (1, .int p1)]) (by decide) (Nat.le_of_ble_eq_true rfl) rfl (fun G hG hRm g hr => ?_)
  have g : qv_ok G X cX9_clifford RX9 2 := g
  unfold f_X9_clifford
  refine qv_iload_n (pc := 0) g dX9_clifford_0 rfl rfl ?_
  refine qv_aI rfl (qv_cs (pc := 1) g (c_X9_isRegister (gl G) X (d + 3) T _ M) (qv_R hRm (by omega) (by decide)) ⟨Nat.zero_le _, Nat.zero_le _⟩ mw_X9_isRegister lk_RX9_90 st_X9_isRegister pd_X9_isRegister rfl (Nat.le_of_ble_eq_true rfl) dX9_clifford_1) (fun v1 => ?_)
  refine qv_if_ne (pc := 4) (tgt := 9) g dX9_clifford_4 (by decide) ?_ ?_
  · refine qv_aload_n (pc := 9) g dX9_clifford_9 rfl rfl ?_
    have h1 : qv_is _ T 2 10 (qv_rf T t 6) := ht.to 6 (by decide) (by decide) rfl
    refine qv_getr (pc := 10) g fw_RX9_49 ht (by decide) (by decide) rfl dX9_clifford_10 ?_
    refine qv_aV (qv_cv (pc := 13) g (c_X2_prepare (gl G) X d T _ M h1) (qv_R hRm (by omega) (by decide)) ⟨Nat.zero_le _, Nat.zero_le _⟩ mw_X2_prepare lk_RX9_163 im_X2_prepare se_X2_prepare (by decide) rfl h1 pd_X2_prepare rfl (Nat.le_of_ble_eq_true rfl) dX9_clifford_13) (fun M2 => ?_)
    refine qv_aload_n (pc := 16) g dX9_clifford_16 rfl rfl ?_
    refine qv_getr (pc := 17) g fw_RX9_49 ht (by decide) (by decide) rfl dX9_clifford_17 ?_
    refine qv_aload_n (pc := 20) g dX9_clifford_20 rfl rfl ?_
    have h2 : qv_is _ T 0 3 (qv_rf T t 0) := ht.to 0 (by decide) (by decide) rfl
    refine qv_getr (pc := 21) g fw_RX9_12 ht (by decide) (by decide) rfl dX9_clifford_21 ?_
    have h3 : qv_is _ T 37 4 (qv_rf T (qv_rf T t 0) 0) := h2.to 0 (by decide) (by decide) rfl
    refine qv_getr (pc := 24) g fw_RX9_94 h2 (by decide) (by decide) rfl dX9_clifford_24 ?_
    refine qv_iload_n (pc := 27) g dX9_clifford_27 rfl rfl ?_
    refine qv_aald (pc := 28) g (by decide) h3 (fun _ _ => ⟨_, rfl⟩) dX9_clifford_28 (fun z3 => ?_)
    have h4 : qv_is _ T 7 2 (qv_rf T (qv_rf T (qv_rf T t 0) 0) p1.toNatClampNeg) := h3.to _ (by decide) (qv_inb_lt z3) rfl
    refine qv_aI rfl (qv_cv (pc := 29) g (c_X2_find (gl G) X (d + 3) T _ _ M2 h1 h4) (qv_R hRm (by omega) (by decide)) ⟨Nat.zero_le _, Nat.zero_le _⟩ mw_X2_find lk_RX9_166 im_X2_find se_X2_find (by decide) rfl h1 pd_X2_find rfl (Nat.le_of_ble_eq_true rfl) dX9_clifford_29) (fun v4 => ?_)
    exact qv_iret (pc := 32) g hr rfl dX9_clifford_32
  · refine qv_iconst (v := (-1)) (pc := 7) g dX9_clifford_7 (by decide) ?_
    exact qv_iret (pc := 8) g hr rfl dX9_clifford_8

set_option maxHeartbeats 4000000 in
set_option maxRecDepth 100000 in
theorem c_X9_take (l : Launch) (X : qv_X) (d : Nat) (T : List qv_Ent) (t : Nat) (p1 : Int32) (p2 : Int32) (M : qv_Mem) {nt : Nat} (ht : qv_is (nt + 4) T 9 14 t) : qv_Ok l X yX9_take cX9_take 3 (some .int) (d + 5) T M [.ref (X.2.2.2 + t), .int p1, .int p2] qv_eIM (f_X9_take T t p1 p2 M) := by
  refine qv_mk (lv := [(0, .ref (X.2.2.2 + t)), (1, .int p1), (2, .int p2)]) (by decide) (Nat.le_of_ble_eq_true rfl) rfl (fun G hG hRm g hr => ?_)
  have g : qv_ok G X cX9_take RX9 3 := g
  unfold f_X9_take
  refine qv_iload_n (pc := 0) g dX9_take_0 rfl rfl ?_
  refine qv_aI rfl (qv_cs (pc := 1) g (c_X9_isRegister (gl G) X (d + 3) T _ M) (qv_R hRm (by omega) (by decide)) ⟨Nat.zero_le _, Nat.zero_le _⟩ mw_X9_isRegister lk_RX9_90 st_X9_isRegister pd_X9_isRegister rfl (Nat.le_of_ble_eq_true rfl) dX9_take_1) (fun v1 => ?_)
  refine qv_if_eq (pc := 4) (tgt := 17) g dX9_take_4 (by decide) ?_ ?_
  · refine qv_iconst (v := (-1)) (pc := 17) g dX9_take_17 (by decide) ?_
    exact qv_iret (pc := 18) g hr rfl dX9_take_18
  · refine qv_iload_n (pc := 7) g dX9_take_7 rfl rfl ?_
    refine qv_sipush (v := 192) (pc := 8) g dX9_take_8 (by decide) ?_
    refine qv_aI rfl (qv_cs (pc := 11) g (c_X9_isBelow (gl G) X (d + 4) T _ _ M) (qv_R hRm (by omega) (by decide)) ⟨Nat.zero_le _, Nat.zero_le _⟩ mw_X9_isBelow lk_RX9_133 st_X9_isBelow pd_X9_isBelow rfl (Nat.le_of_ble_eq_true rfl) dX9_take_11) (fun v2 => ?_)
    refine qv_if_ne (pc := 14) (tgt := 19) g dX9_take_14 (by decide) ?_ ?_
    · refine qv_aload_n (pc := 19) g dX9_take_19 rfl rfl ?_
      have h1 : qv_is _ T 2 10 (qv_rf T t 6) := ht.to 6 (by decide) (by decide) rfl
      refine qv_getr (pc := 20) g fw_RX9_49 ht (by decide) (by decide) rfl dX9_take_20 ?_
      refine qv_aV (qv_cv (pc := 23) g (c_X2_prepare (gl G) X d T _ M h1) (qv_R hRm (by omega) (by decide)) ⟨Nat.zero_le _, Nat.zero_le _⟩ mw_X2_prepare lk_RX9_163 im_X2_prepare se_X2_prepare (by decide) rfl h1 pd_X2_prepare rfl (Nat.le_of_ble_eq_true rfl) dX9_take_23) (fun M3 => ?_)
      refine qv_aload_n (pc := 26) g dX9_take_26 rfl rfl ?_
      refine qv_getr (pc := 27) g fw_RX9_49 ht (by decide) (by decide) rfl dX9_take_27 ?_
      refine qv_iload_n (pc := 30) g dX9_take_30 rfl rfl ?_
      refine qv_aload_n (pc := 31) g dX9_take_31 rfl rfl ?_
      have h2 : qv_is _ T 7 2 (qv_rf T t 10) := ht.to 10 (by decide) (by decide) rfl
      refine qv_getr (pc := 32) g fw_RX9_77 ht (by decide) (by decide) rfl dX9_take_32 ?_
      refine qv_aV (qv_cv (pc := 35) g (c_X2_load (gl G) X (d + 4) T _ _ _ M3 h1 h2) (qv_R hRm (by omega) (by decide)) ⟨Nat.zero_le _, Nat.zero_le _⟩ mw_X2_load lk_RX9_170 im_X2_load se_X2_load (by decide) rfl h1 pd_X2_load rfl (Nat.le_of_ble_eq_true rfl) dX9_take_35) (fun M4 => ?_)
      refine qv_aload_n (pc := 38) g dX9_take_38 rfl rfl ?_
      refine qv_iload_n (pc := 39) g dX9_take_39 rfl rfl ?_
      refine qv_aIM (qv_cv (pc := 40) g (c_X9_settleRegister (gl G) X (d + 3) T _ _ M4 ht) (qv_R hRm (by omega) (by decide)) ⟨Nat.zero_le _, Nat.zero_le _⟩ mw_X9_settleRegister lk_RX9_116 im_X9_settleRegister se_X9_settleRegister (by decide) rfl ht pd_X9_settleRegister rfl (Nat.le_of_ble_eq_true rfl) dX9_take_40) (fun v5 M6 => ?_)
      exact qv_iret (pc := 43) g hr rfl dX9_take_43
    · refine qv_iconst (v := (-1)) (pc := 17) g dX9_take_17 (by decide) ?_
      exact qv_iret (pc := 18) g hr rfl dX9_take_18

set_option maxHeartbeats 4000000 in
set_option maxRecDepth 100000 in
theorem c_X9_leads (l : Launch) (X : qv_X) (d : Nat) (T : List qv_Ent) (t : Nat) (p1 : Int32) (p2 : Int32) (M : qv_Mem) {nt : Nat} (ht : qv_is (nt + 4) T 9 14 t) : qv_Ok l X yX9_leads cX9_leads 3 (some .int) (d + 5) T M [.ref (X.2.2.2 + t), .int p1, .int p2] qv_eIM (f_X9_leads T t p1 p2 M) := by
  refine qv_mk (lv := [(0, .ref (X.2.2.2 + t)), (1, .int p1), (2, .int p2)]) (by decide) (Nat.le_of_ble_eq_true rfl) rfl (fun G hG hRm g hr => ?_)
  have g : qv_ok G X cX9_leads RX9 3 := g
  unfold f_X9_leads
  refine qv_iload_n (pc := 0) g dX9_leads_0 rfl rfl ?_
  refine qv_sipush (v := 192) (pc := 1) g dX9_leads_1 (by decide) ?_
  refine qv_aI rfl (qv_cs (pc := 4) g (c_X9_isBelow (gl G) X (d + 4) T _ _ M) (qv_R hRm (by omega) (by decide)) ⟨Nat.zero_le _, Nat.zero_le _⟩ mw_X9_isBelow lk_RX9_133 st_X9_isBelow pd_X9_isBelow rfl (Nat.le_of_ble_eq_true rfl) dX9_leads_4) (fun v1 => ?_)
  refine qv_if_eq (pc := 7) (tgt := 28) g dX9_leads_7 (by decide) ?_ ?_
  · refine qv_iconst (v := (-1)) (pc := 28) g dX9_leads_28 (by decide) ?_
    exact qv_iret (pc := 29) g hr rfl dX9_leads_29
  · refine qv_iload_n (pc := 10) g dX9_leads_10 rfl rfl ?_
    refine qv_aI rfl (qv_cs (pc := 11) g (c_X9_isGate (gl G) X (d + 3) T _ M) (qv_R hRm (by omega) (by decide)) ⟨Nat.zero_le _, Nat.zero_le _⟩ mw_X9_isGate lk_RX9_105 st_X9_isGate pd_X9_isGate rfl (Nat.le_of_ble_eq_true rfl) dX9_leads_11) (fun v2 => ?_)
    refine qv_if_eq (pc := 14) (tgt := 28) g dX9_leads_14 (by decide) ?_ ?_
    · refine qv_iconst (v := (-1)) (pc := 28) g dX9_leads_28 (by decide) ?_
      exact qv_iret (pc := 29) g hr rfl dX9_leads_29
    · refine qv_iload_n (pc := 17) g dX9_leads_17 rfl rfl ?_
      refine qv_iconst (v := 1) (pc := 18) g dX9_leads_18 (by decide) ?_
      refine qv_icmp_eq (pc := 19) (tgt := 28) g dX9_leads_19 (by decide) ?_ ?_
      · refine qv_iconst (v := (-1)) (pc := 28) g dX9_leads_28 (by decide) ?_
        exact qv_iret (pc := 29) g hr rfl dX9_leads_29
      · refine qv_iload_n (pc := 22) g dX9_leads_22 rfl rfl ?_
        refine qv_bipush (v := 6) (pc := 23) g dX9_leads_23 (by decide) ?_
        refine qv_icmp_ne (pc := 25) (tgt := 30) g dX9_leads_25 (by decide) ?_ ?_
        · refine qv_aload_n (pc := 30) g dX9_leads_30 rfl rfl ?_
          have h1 : qv_is _ T 2 10 (qv_rf T t 6) := ht.to 6 (by decide) (by decide) rfl
          refine qv_getr (pc := 31) g fw_RX9_49 ht (by decide) (by decide) rfl dX9_leads_31 ?_
          refine qv_aV (qv_cv (pc := 34) g (c_X2_prepare (gl G) X d T _ M h1) (qv_R hRm (by omega) (by decide)) ⟨Nat.zero_le _, Nat.zero_le _⟩ mw_X2_prepare lk_RX9_163 im_X2_prepare se_X2_prepare (by decide) rfl h1 pd_X2_prepare rfl (Nat.le_of_ble_eq_true rfl) dX9_leads_34) (fun M3 => ?_)
          refine qv_aload_n (pc := 37) g dX9_leads_37 rfl rfl ?_
          refine qv_getr (pc := 38) g fw_RX9_49 ht (by decide) (by decide) rfl dX9_leads_38 ?_
          refine qv_iload_n (pc := 41) g dX9_leads_41 rfl rfl ?_
          refine qv_iload_n (pc := 42) g dX9_leads_42 rfl rfl ?_
          refine qv_aI rfl (qv_cv (pc := 43) g (c_X2_next (gl G) X (d + 4) T _ _ _ M3 h1) (qv_R hRm (by omega) (by decide)) ⟨Nat.zero_le _, Nat.zero_le _⟩ mw_X2_next lk_RX9_174 im_X2_next se_X2_next (by decide) rfl h1 pd_X2_next rfl (Nat.le_of_ble_eq_true rfl) dX9_leads_43) (fun v4 => ?_)
          exact qv_iret (pc := 46) g hr rfl dX9_leads_46
        · refine qv_iconst (v := (-1)) (pc := 28) g dX9_leads_28 (by decide) ?_
          exact qv_iret (pc := 29) g hr rfl dX9_leads_29

set_option maxHeartbeats 4000000 in
set_option maxRecDepth 100000 in
theorem c_X9_price (l : Launch) (X : qv_X) (d : Nat) (T : List qv_Ent) (t : Nat) (p1 : Int32) (p2 : Int32) (M : qv_Mem) {nt : Nat} (ht : qv_is (nt + 4) T 9 14 t) : qv_Ok l X yX9_price cX9_price 4 (some .int) (d + 2) T M [.ref (X.2.2.2 + t), .int p1, .int p2] qv_eIM (f_X9_price T t p1 p2 M) := by
  refine qv_mk (lv := [(0, .ref (X.2.2.2 + t)), (1, .int p1), (2, .int p2)]) (by decide) (Nat.le_of_ble_eq_true rfl) rfl (fun G hG hRm g hr => ?_)
  have g : qv_ok G X cX9_price RX9 4 := g
  unfold f_X9_price
  refine qv_iload_n (pc := 0) g dX9_price_0 rfl rfl ?_
  refine qv_aI rfl (qv_cs (pc := 1) g (c_X9_isGate (gl G) X d T _ M) (qv_R hRm (by omega) (by decide)) ⟨Nat.zero_le _, Nat.zero_le _⟩ mw_X9_isGate lk_RX9_105 st_X9_isGate pd_X9_isGate rfl (Nat.le_of_ble_eq_true rfl) dX9_price_1) (fun v1 => ?_)
  refine qv_if_eq (pc := 4) (tgt := 17) g dX9_price_4 (by decide) ?_ ?_
  · refine qv_iconst (v := (-1)) (pc := 17) g dX9_price_17 (by decide) ?_
    exact qv_iret (pc := 18) g hr rfl dX9_price_18
  · refine qv_iload_n (pc := 7) g dX9_price_7 rfl rfl ?_
    refine qv_if_lt (pc := 8) (tgt := 17) g dX9_price_8 (by decide) ?_ ?_
    · refine qv_iconst (v := (-1)) (pc := 17) g dX9_price_17 (by decide) ?_
      exact qv_iret (pc := 18) g hr rfl dX9_price_18
    · refine qv_iload_n (pc := 11) g dX9_price_11 rfl rfl ?_
      refine qv_bipush (v := 9) (pc := 12) g dX9_price_12 (by decide) ?_
      refine qv_icmp_le (pc := 14) (tgt := 19) g dX9_price_14 (by decide) ?_ ?_
      · refine qv_aload_n (pc := 19) g dX9_price_19 rfl rfl ?_
        have h1 : qv_is _ T 0 3 (qv_rf T t 0) := ht.to 0 (by decide) (by decide) rfl
        refine qv_getr (pc := 20) g fw_RX9_12 ht (by decide) (by decide) rfl dX9_price_20 ?_
        have h2 : qv_is _ T 20 7 (qv_rf T (qv_rf T t 0) 2) := h1.to 2 (by decide) (by decide) rfl
        refine qv_getr (pc := 23) g fw_RX9_177 h1 (by decide) (by decide) rfl dX9_price_23 ?_
        refine qv_iload_n (pc := 26) g dX9_price_26 rfl rfl ?_
        refine qv_iald (pc := 27) g h2 dX9_price_27 (fun v2 => ?_)
        refine qv_istore_n (pc := 28) (lv1 := [(3, .int v2), (0, .ref (X.2.2.2 + t)), (1, .int p1), (2, .int p2)]) g dX9_price_28 rfl (by decide) rfl ?_
        refine qv_aload_n (pc := 29) g dX9_price_29 rfl rfl ?_
        refine qv_getr (pc := 30) g fw_RX9_12 ht (by decide) (by decide) rfl dX9_price_30 ?_
        refine qv_getr (pc := 33) g fw_RX9_177 h1 (by decide) (by decide) rfl dX9_price_33 ?_
        refine qv_iload_n (pc := 36) g dX9_price_36 rfl rfl ?_
        refine qv_iload_n (pc := 37) g dX9_price_37 rfl rfl ?_
        refine qv_iast (pc := 38) g h2 dX9_price_38 (fun M3 => ?_)
        refine qv_iload_n (pc := 39) g dX9_price_39 rfl rfl ?_
        exact qv_iret (pc := 40) g hr rfl dX9_price_40
      · refine qv_iconst (v := (-1)) (pc := 17) g dX9_price_17 (by decide) ?_
        exact qv_iret (pc := 18) g hr rfl dX9_price_18

set_option maxHeartbeats 4000000 in
set_option maxRecDepth 100000 in
theorem c_X2_isRankedBy (l : Launch) (X : qv_X) (d : Nat) (T : List qv_Ent) (t : Nat) (t1 : Nat) (M : qv_Mem) {nt : Nat} (ht : qv_is (nt + 2) T 2 10 t) {nt1 : Nat} (ht1 : qv_is (nt1 + 0) T 20 7 t1) : qv_Ok l X yX2_isRankedBy cX2_isRankedBy 6 (some .boolean) (d) T M [.ref (X.2.2.2 + t), .ref (X.2.2.2 + t1)] (qv_eI M) (f_X2_isRankedBy T t t1 M) := by
  refine qv_mk (lv := [(0, .ref (X.2.2.2 + t)), (1, .ref (X.2.2.2 + t1))]) (by decide) (Nat.le_of_ble_eq_true rfl) rfl (fun G hG hRm g hr => ?_)
  have g : qv_ok G X cX2_isRankedBy RX2 6 := g
  unfold f_X2_isRankedBy
  refine qv_gst (pc := 0) g fs_RX2_63 dX2_isRankedBy_0 ?_
  refine qv_astore_n (pc := 3) (lv1 := [(2, .ref X.2.2.1), (0, .ref (X.2.2.2 + t)), (1, .ref (X.2.2.2 + t1))]) g dX2_isRankedBy_3 rfl (by decide) rfl ?_
  refine qv_aload_n (pc := 4) g dX2_isRankedBy_4 rfl rfl ?_
  refine qv_plen (pc := 5) g dX2_isRankedBy_5 ?_
  refine qv_istore_n (pc := 6) (lv1 := [(3, .int 5), (2, .ref X.2.2.1), (0, .ref (X.2.2.2 + t)), (1, .ref (X.2.2.2 + t1))]) g dX2_isRankedBy_6 rfl (by decide) rfl ?_
  refine qv_iconst (v := 0) (pc := 7) g dX2_isRankedBy_7 (by decide) ?_
  refine qv_istore (pc := 8) (lv1 := [(4, .int 0), (3, .int 5), (2, .ref X.2.2.1), (0, .ref (X.2.2.2 + t)), (1, .ref (X.2.2.2 + t1))]) g dX2_isRankedBy_8 (by decide) rfl ?_
  refine qv_join (fun (k1 : Unit → Option Int32) => ∀ (_ : Unit), qv_V G X 6 (qv_QM G X T (qv_eI M) (0, 0)) T (0, 0) 44 [] [] M (k1 ())) (fun _ => ?_) (fun k1 qk1 => ?_)
  · refine qv_iconst (v := 1) (pc := 44) g dX2_isRankedBy_44 (by decide) ?_
    exact qv_zret (pc := 45) g hr rfl rfl dX2_isRankedBy_45
  refine qv_lv [3, 4, 2, 1, 0] rfl ?_
  exact qv_L1 (Vh := fun (v2 : Int32) o => qv_V G X 6 (qv_QM G X T (qv_eI M) (0, 0)) T (0, 0) 10 [(0, .ref (X.2.2.2 + t)), (1, .ref (X.2.2.2 + t1)), (2, .ref X.2.2.1), (3, .int 5), (4, .int v2)] [] M o) (fun _ => qv_none) (fun r3 qr3 v2 => by
    unfold b_X2_isRankedBy_10
    refine qv_iload (pc := 10) g dX2_isRankedBy_10 rfl ?_
    refine qv_iload_n (pc := 12) g dX2_isRankedBy_12 rfl rfl ?_
    refine qv_icmp_ge (pc := 13) (tgt := 44) g dX2_isRankedBy_13 (by decide) ?_ ?_
    · refine qv_lv [] rfl ?_
      exact qk1 ()
    · refine qv_aload_n (pc := 16) g dX2_isRankedBy_16 rfl rfl ?_
      refine qv_iload (pc := 17) g dX2_isRankedBy_17 rfl ?_
      refine qv_pald (pc := 19) g dX2_isRankedBy_19 (fun v4 => ?_)
      refine qv_istore (pc := 20) (lv1 := [(5, .int v4), (0, .ref (X.2.2.2 + t)), (1, .ref (X.2.2.2 + t1)), (2, .ref X.2.2.1), (3, .int 5), (4, .int v2)]) g dX2_isRankedBy_20 (by decide) rfl ?_
      refine qv_aload_n (pc := 22) g dX2_isRankedBy_22 rfl rfl ?_
      have h1 : qv_is _ T 20 7 (qv_rf T t 6) := ht.to 6 (by decide) (by decide) rfl
      refine qv_getr (pc := 23) g fw_RX2_30 ht (by decide) (by decide) rfl dX2_isRankedBy_23 ?_
      refine qv_iload (pc := 26) g dX2_isRankedBy_26 rfl ?_
      refine qv_iald (pc := 28) g h1 dX2_isRankedBy_28 (fun v5 => ?_)
      refine qv_aload_n (pc := 29) g dX2_isRankedBy_29 rfl rfl ?_
      refine qv_iload (pc := 30) g dX2_isRankedBy_30 rfl ?_
      refine qv_iald (pc := 32) g ht1 dX2_isRankedBy_32 (fun v6 => ?_)
      refine qv_icmp_eq (pc := 33) (tgt := 38) g dX2_isRankedBy_33 (by decide) ?_ ?_
      · refine qv_iinc (pc := 38) (v := (v2 + 1)) (lv1 := [(4, .int (v2 + 1)), (5, .int v4), (0, .ref (X.2.2.2 + t)), (1, .ref (X.2.2.2 + t1)), (2, .ref X.2.2.1), (3, .int 5)]) g dX2_isRankedBy_38 rfl rfl (by decide) rfl ?_
        refine qv_goto (pc := 41) (tgt := 10) g dX2_isRankedBy_41 (by decide) ?_
        refine qv_lv [2, 3, 4, 5, 0] rfl ?_
        exact qr3 _
      · refine qv_iconst (v := 0) (pc := 36) g dX2_isRankedBy_36 (by decide) ?_
        exact qv_zret (pc := 37) g hr rfl rfl dX2_isRankedBy_37) _ _

set_option maxHeartbeats 4000000 in
set_option maxRecDepth 100000 in
theorem c_X2_weightOf (l : Launch) (X : qv_X) (d : Nat) (T : List qv_Ent) (t : Nat) (p1 : Int32) (M : qv_Mem) {nt : Nat} (ht : qv_is (nt + 2) T 2 10 t) : qv_Ok l X yX2_weightOf cX2_weightOf 2 (some .int) (d) T M [.ref (X.2.2.2 + t), .int p1] (qv_eI M) (f_X2_weightOf T t p1 M) := by
  refine qv_mk (lv := [(0, .ref (X.2.2.2 + t)), (1, .int p1)]) (by decide) (Nat.le_of_ble_eq_true rfl) rfl (fun G hG hRm g hr => ?_)
  have g : qv_ok G X cX2_weightOf RX2 2 := g
  unfold f_X2_weightOf
  refine qv_aload_n (pc := 0) g dX2_weightOf_0 rfl rfl ?_
  have h1 : qv_is _ T 20 7 (qv_rf T t 6) := ht.to 6 (by decide) (by decide) rfl
  refine qv_getr (pc := 1) g fw_RX2_30 ht (by decide) (by decide) rfl dX2_weightOf_1 ?_
  refine qv_iload_n (pc := 4) g dX2_weightOf_4 rfl rfl ?_
  refine qv_iald (pc := 5) g h1 dX2_weightOf_5 (fun v1 => ?_)
  refine qv_sipush (v := 1024) (pc := 6) g dX2_weightOf_6 (by decide) ?_
  refine qv_imul (pc := 9) g dX2_weightOf_9 ?_
  refine qv_iconst (v := 1) (pc := 10) g dX2_weightOf_10 (by decide) ?_
  refine qv_iadd (pc := 11) g dX2_weightOf_11 ?_
  exact qv_iret (pc := 12) g hr rfl dX2_weightOf_12

set_option maxHeartbeats 4000000 in
set_option maxRecDepth 100000 in
theorem c_X2_improveRanks (l : Launch) (X : qv_X) (d : Nat) (T : List qv_Ent) (t : Nat) (M : qv_Mem) {nt : Nat} (ht : qv_is (nt + 2) T 2 10 t) : qv_Ok l X yX2_improveRanks cX2_improveRanks 9 (some .boolean) (d + 1) T M [.ref (X.2.2.2 + t)] qv_eIM (f_X2_improveRanks T t M) := by
  refine qv_mk (lv := [(0, .ref (X.2.2.2 + t))]) (by decide) (Nat.le_of_ble_eq_true rfl) rfl (fun G hG hRm g hr => ?_)
  have g : qv_ok G X cX2_improveRanks RX2 9 := g
  unfold f_X2_improveRanks
  refine qv_iconst (v := 0) (pc := 0) g dX2_improveRanks_0 (by decide) ?_
  refine qv_istore_n (pc := 1) (lv1 := [(1, .int 0), (0, .ref (X.2.2.2 + t))]) g dX2_improveRanks_1 rfl (by decide) rfl ?_
  refine qv_iconst (v := 0) (pc := 2) g dX2_improveRanks_2 (by decide) ?_
  refine qv_istore_n (pc := 3) (lv1 := [(2, .int 0), (1, .int 0), (0, .ref (X.2.2.2 + t))]) g dX2_improveRanks_3 rfl (by decide) rfl ?_
  refine qv_join (fun (k3 : Int32 → qv_Mem → Option (Int32 × qv_Mem)) => ∀ (v1 : Int32) (M2 : qv_Mem), qv_V G X 9 (qv_QM G X T qv_eIM (0, 0)) T (0, 0) 99 [(1, .int v1)] [] M2 (k3 v1 M2)) (fun v1 M2 => ?_) (fun k3 qk3 => ?_)
  · refine qv_iload_n (pc := 99) g dX2_improveRanks_99 rfl rfl ?_
    exact qv_zretg (pc := 100) g hr rfl dX2_improveRanks_100
  refine qv_lv [2, 1, 0] rfl ?_
  exact qv_L3 (Vh := fun (v4 : Int32) (v5 : Int32) (M6 : qv_Mem) o => qv_V G X 9 (qv_QM G X T qv_eIM (0, 0)) T (0, 0) 4 [(0, .ref (X.2.2.2 + t)), (1, .int v4), (2, .int v5)] [] M6 o) (fun _ _ _ => qv_none) (fun r7 qr7 v4 v5 M6 => by
    unfold b_X2_improveRanks_4
    refine qv_iload_n (pc := 4) g dX2_improveRanks_4 rfl rfl ?_
    refine qv_sipush (v := 192) (pc := 5) g dX2_improveRanks_5 (by decide) ?_
    refine qv_icmp_ge (pc := 8) (tgt := 99) g dX2_improveRanks_8 (by decide) ?_ ?_
    · refine qv_lv [1] rfl ?_
      exact qk3 _ _
    · refine qv_gst (pc := 11) g fs_RX2_63 dX2_improveRanks_11 ?_
      refine qv_astore_n (pc := 14) (lv1 := [(3, .ref X.2.2.1), (0, .ref (X.2.2.2 + t)), (1, .int v4), (2, .int v5)]) g dX2_improveRanks_14 rfl (by decide) rfl ?_
      refine qv_aload_n (pc := 15) g dX2_improveRanks_15 rfl rfl ?_
      refine qv_plen (pc := 16) g dX2_improveRanks_16 ?_
      refine qv_istore (pc := 17) (lv1 := [(4, .int 5), (3, .ref X.2.2.1), (0, .ref (X.2.2.2 + t)), (1, .int v4), (2, .int v5)]) g dX2_improveRanks_17 (by decide) rfl ?_
      refine qv_iconst (v := 0) (pc := 19) g dX2_improveRanks_19 (by decide) ?_
      refine qv_istore (pc := 20) (lv1 := [(5, .int 0), (4, .int 5), (3, .ref X.2.2.1), (0, .ref (X.2.2.2 + t)), (1, .int v4), (2, .int v5)]) g dX2_improveRanks_20 (by decide) rfl ?_
      refine qv_join (fun (k10 : Int32 → qv_Mem → Option (Int32 × qv_Mem)) => ∀ (v8 : Int32) (M9 : qv_Mem), qv_V G X 9 (qv_QM G X T qv_eIM (0, 0)) T (0, 0) 93 [(0, .ref (X.2.2.2 + t)), (1, .int v8), (2, .int v5)] [] M9 (k10 v8 M9)) (fun v8 M9 => ?_) (fun k10 qk10 => ?_)
      · refine qv_iinc (pc := 93) (v := (v5 + 1)) (lv1 := [(2, .int (v5 + 1)), (0, .ref (X.2.2.2 + t)), (1, .int v8)]) g dX2_improveRanks_93 rfl rfl (by decide) rfl ?_
        refine qv_goto (pc := 96) (tgt := 4) g dX2_improveRanks_96 (by decide) ?_
        refine qv_lv [1, 2, 0] rfl ?_
        exact qr7 _ _ _
      refine qv_lv [3, 4, 5, 2, 1, 0] rfl ?_
      exact qv_L3 (Vh := fun (v11 : Int32) (v12 : Int32) (M13 : qv_Mem) o => qv_V G X 9 (qv_QM G X T qv_eIM (0, 0)) T (0, 0) 22 [(0, .ref (X.2.2.2 + t)), (1, .int v11), (2, .int v5), (3, .ref X.2.2.1), (4, .int 5), (5, .int v12)] [] M13 o) (fun _ _ _ => qv_none) (fun r14 qr14 v11 v12 M13 => by
        unfold b_X2_improveRanks_22
        refine qv_iload (pc := 22) g dX2_improveRanks_22 rfl ?_
        refine qv_iload (pc := 24) g dX2_improveRanks_24 rfl ?_
        refine qv_icmp_ge (pc := 26) (tgt := 93) g dX2_improveRanks_26 (by decide) ?_ ?_
        · refine qv_lv [0, 1, 2] rfl ?_
          exact qk10 _ _
        · refine qv_aload_n (pc := 29) g dX2_improveRanks_29 rfl rfl ?_
          refine qv_iload (pc := 30) g dX2_improveRanks_30 rfl ?_
          refine qv_pald (pc := 32) g dX2_improveRanks_32 (fun v15 => ?_)
          refine qv_istore (pc := 33) (lv1 := [(6, .int v15), (0, .ref (X.2.2.2 + t)), (1, .int v11), (2, .int v5), (3, .ref X.2.2.1), (4, .int 5), (5, .int v12)]) g dX2_improveRanks_33 (by decide) rfl ?_
          refine qv_aload_n (pc := 35) g dX2_improveRanks_35 rfl rfl ?_
          have h1 : qv_is _ T 20 1344 (qv_rf T t 1) := ht.to 1 (by decide) (by decide) rfl
          refine qv_getr (pc := 36) g fw_RX2_15 ht (by decide) (by decide) rfl dX2_improveRanks_36 ?_
          refine qv_iload_n (pc := 39) g dX2_improveRanks_39 rfl rfl ?_
          refine qv_bipush (v := 7) (pc := 40) g dX2_improveRanks_40 (by decide) ?_
          refine qv_imul (pc := 42) g dX2_improveRanks_42 ?_
          refine qv_iload (pc := 43) g dX2_improveRanks_43 rfl ?_
          refine qv_iadd (pc := 45) g dX2_improveRanks_45 ?_
          refine qv_iald (pc := 46) g h1 dX2_improveRanks_46 (fun v16 => ?_)
          refine qv_istore (pc := 47) (lv1 := [(7, .int v16), (6, .int v15), (0, .ref (X.2.2.2 + t)), (1, .int v11), (2, .int v5), (3, .ref X.2.2.1), (4, .int 5), (5, .int v12)]) g dX2_improveRanks_47 (by decide) rfl ?_
          refine qv_aload_n (pc := 49) g dX2_improveRanks_49 rfl rfl ?_
          have h2 : qv_is _ T 20 192 (qv_rf T t 5) := ht.to 5 (by decide) (by decide) rfl
          refine qv_getr (pc := 50) g fw_RX2_27 ht (by decide) (by decide) rfl dX2_improveRanks_50 ?_
          refine qv_iload_n (pc := 53) g dX2_improveRanks_53 rfl rfl ?_
          refine qv_iald (pc := 54) g h2 dX2_improveRanks_54 (fun v17 => ?_)
          refine qv_aload_n (pc := 55) g dX2_improveRanks_55 rfl rfl ?_
          refine qv_iload (pc := 56) g dX2_improveRanks_56 rfl ?_
          refine qv_aI rfl (qv_cv (pc := 58) g (c_X2_weightOf (gl G) X d T _ _ M13 ht) (qv_R hRm (by omega) (by decide)) ⟨Nat.zero_le _, Nat.zero_le _⟩ mw_X2_weightOf lk_RX2_113 im_X2_weightOf se_X2_weightOf (by decide) rfl ht pd_X2_weightOf rfl (Nat.le_of_ble_eq_true rfl) dX2_improveRanks_58) (fun v18 => ?_)
          refine qv_iadd (pc := 61) g dX2_improveRanks_61 ?_
          refine qv_istore (pc := 62) (lv1 := [(8, .int (v17 + v18)), (7, .int v16), (6, .int v15), (0, .ref (X.2.2.2 + t)), (1, .int v11), (2, .int v5), (3, .ref X.2.2.1), (4, .int 5), (5, .int v12)]) g dX2_improveRanks_62 (by decide) rfl ?_
          refine qv_iload (pc := 64) g dX2_improveRanks_64 rfl ?_
          refine qv_aload_n (pc := 66) g dX2_improveRanks_66 rfl rfl ?_
          refine qv_getr (pc := 67) g fw_RX2_27 ht (by decide) (by decide) rfl dX2_improveRanks_67 ?_
          refine qv_iload (pc := 70) g dX2_improveRanks_70 rfl ?_
          refine qv_iald (pc := 72) g h2 dX2_improveRanks_72 (fun v19 => ?_)
          refine qv_join (fun (k22 : Int32 → qv_Mem → Option (Int32 × qv_Mem)) => ∀ (v20 : Int32) (M21 : qv_Mem), qv_V G X 9 (qv_QM G X T qv_eIM (0, 0)) T (0, 0) 87 [(0, .ref (X.2.2.2 + t)), (1, .int v20), (2, .int v5), (3, .ref X.2.2.1), (4, .int 5), (5, .int v12)] [] M21 (k22 v20 M21)) (fun v20 M21 => ?_) (fun k22 qk22 => ?_)
          · refine qv_iinc (pc := 87) (v := (v12 + 1)) (lv1 := [(5, .int (v12 + 1)), (0, .ref (X.2.2.2 + t)), (1, .int v20), (2, .int v5), (3, .ref X.2.2.1), (4, .int 5)]) g dX2_improveRanks_87 rfl rfl (by decide) rfl ?_
            refine qv_goto (pc := 90) (tgt := 22) g dX2_improveRanks_90 (by decide) ?_
            refine qv_lv [1, 2, 3, 4, 5, 0] rfl ?_
            exact qr14 _ _ _
          refine qv_icmp_ge (pc := 73) (tgt := 87) g dX2_improveRanks_73 (by decide) ?_ ?_
          · refine qv_lv [3, 4, 5, 6, 7, 8] rfl ?_
            exact qk22 _ _
          · refine qv_aload_n (pc := 76) g dX2_improveRanks_76 rfl rfl ?_
            refine qv_getr (pc := 77) g fw_RX2_27 ht (by decide) (by decide) rfl dX2_improveRanks_77 ?_
            refine qv_iload (pc := 80) g dX2_improveRanks_80 rfl ?_
            refine qv_iload (pc := 82) g dX2_improveRanks_82 rfl ?_
            refine qv_iast (pc := 84) g h2 dX2_improveRanks_84 (fun M23 => ?_)
            refine qv_iconst (v := 1) (pc := 85) g dX2_improveRanks_85 (by decide) ?_
            refine qv_istore_n (pc := 86) (lv1 := [(1, .int 1), (8, .int (v17 + v18)), (7, .int v16), (6, .int v15), (0, .ref (X.2.2.2 + t)), (2, .int v5), (3, .ref X.2.2.1), (4, .int 5), (5, .int v12)]) g dX2_improveRanks_86 rfl (by decide) rfl ?_
            refine qv_lv [4, 0, 5, 6, 7, 8] rfl ?_
            exact qk22 _ _) _ _ _ _) _ _ _ _

set_option maxHeartbeats 4000000 in
set_option maxRecDepth 100000 in
theorem c_X2_rankBy (l : Launch) (X : qv_X) (d : Nat) (T : List qv_Ent) (t : Nat) (t1 : Nat) (M : qv_Mem) {nt : Nat} (ht : qv_is (nt + 2) T 2 10 t) {nt1 : Nat} (ht1 : qv_is (nt1 + 0) T 20 7 t1) : qv_Ok l X yX2_rankBy cX2_rankBy 4 none (d + 5) T M [.ref (X.2.2.2 + t), .ref (X.2.2.2 + t1)] qv_eV (f_X2_rankBy T t t1 M) := by
  refine qv_mk (lv := [(0, .ref (X.2.2.2 + t)), (1, .ref (X.2.2.2 + t1))]) (by decide) (Nat.le_of_ble_eq_true rfl) rfl (fun G hG hRm g hr => ?_)
  have g : qv_ok G X cX2_rankBy RX2 4 := g
  unfold f_X2_rankBy
  refine qv_aload_n (pc := 0) g dX2_rankBy_0 rfl rfl ?_
  refine qv_aV (qv_cv (pc := 1) g (c_X2_prepare (gl G) X d T _ M ht) (qv_R hRm (by omega) (by decide)) ⟨Nat.zero_le _, Nat.zero_le _⟩ mw_X2_prepare lk_RX2_95 im_X2_prepare se_X2_prepare (by decide) rfl ht pd_X2_prepare rfl (Nat.le_of_ble_eq_true rfl) dX2_rankBy_1) (fun M1 => ?_)
  refine qv_aload_n (pc := 4) g dX2_rankBy_4 rfl rfl ?_
  refine qv_gets (pc := 5) g fw_RX2_44 ht (by decide) (by decide) rfl dX2_rankBy_5 (fun v2 => ?_)
  refine qv_join (fun (k3 : Unit → Option qv_Mem) => ∀ (_ : Unit), qv_V G X 4 (qv_QM G X T qv_eV (0, 0)) T (0, 0) 20 [(0, .ref (X.2.2.2 + t)), (1, .ref (X.2.2.2 + t1))] [] M1 (k3 ())) (fun _ => ?_) (fun k3 qk3 => ?_)
  · refine qv_aload_n (pc := 20) g dX2_rankBy_20 rfl rfl ?_
    refine qv_iconst (v := 0) (pc := 21) g dX2_rankBy_21 (by decide) ?_
    refine qv_aload_n (pc := 22) g dX2_rankBy_22 rfl rfl ?_
    have h1 : qv_is _ T 20 7 (qv_rf T t 6) := ht.to 6 (by decide) (by decide) rfl
    refine qv_getr (pc := 23) g fw_RX2_30 ht (by decide) (by decide) rfl dX2_rankBy_23 ?_
    refine qv_iconst (v := 0) (pc := 26) g dX2_rankBy_26 (by decide) ?_
    refine qv_bipush (v := 7) (pc := 27) g dX2_rankBy_27 (by decide) ?_
    refine qv_copyI (pc := 29) g lk_RX2_102 nt_copy st_copy ini_sys ht1 h1 (Nat.le_of_ble_eq_true rfl) dX2_rankBy_29 (fun M4 => ?_)
    refine qv_aload_n (pc := 32) g dX2_rankBy_32 rfl rfl ?_
    refine qv_iconst (v := 1) (pc := 33) g dX2_rankBy_33 (by decide) ?_
    refine qv_putz (pc := 34) g pw_RX2_44 ht (by decide) (by decide) rfl dX2_rankBy_34 (fun M5 => ?_)
    refine qv_iconst (v := 0) (pc := 37) g dX2_rankBy_37 (by decide) ?_
    refine qv_istore_n (pc := 38) (lv1 := [(2, .int 0), (0, .ref (X.2.2.2 + t)), (1, .ref (X.2.2.2 + t1))]) g dX2_rankBy_38 rfl (by decide) rfl ?_
    refine qv_join (fun (k7 : qv_Mem → Option qv_Mem) => ∀ (M6 : qv_Mem), qv_V G X 4 (qv_QM G X T qv_eV (0, 0)) T (0, 0) 60 [(0, .ref (X.2.2.2 + t))] [] M6 (k7 M6)) (fun M6 => ?_) (fun k7 qk7 => ?_)
    · refine qv_aload_n (pc := 60) g dX2_rankBy_60 rfl rfl ?_
      have h2 : qv_is _ T 20 192 (qv_rf T t 5) := ht.to 5 (by decide) (by decide) rfl
      refine qv_getr (pc := 61) g fw_RX2_27 ht (by decide) (by decide) rfl dX2_rankBy_61 ?_
      refine qv_iconst (v := 0) (pc := 64) g dX2_rankBy_64 (by decide) ?_
      refine qv_iconst (v := 0) (pc := 65) g dX2_rankBy_65 (by decide) ?_
      refine qv_iast (pc := 66) g h2 dX2_rankBy_66 (fun M8 => ?_)
      refine qv_iconst (v := 1) (pc := 67) g dX2_rankBy_67 (by decide) ?_
      refine qv_istore_n (pc := 68) (lv1 := [(2, .int 1), (0, .ref (X.2.2.2 + t))]) g dX2_rankBy_68 rfl (by decide) rfl ?_
      refine qv_iconst (v := 0) (pc := 69) g dX2_rankBy_69 (by decide) ?_
      refine qv_istore_n (pc := 70) (lv1 := [(3, .int 0), (2, .int 1), (0, .ref (X.2.2.2 + t))]) g dX2_rankBy_70 rfl (by decide) rfl ?_
      refine qv_join (fun (k10 : qv_Mem → Option qv_Mem) => ∀ (M9 : qv_Mem), qv_V G X 4 (qv_QM G X T qv_eV (0, 0)) T (0, 0) 93 [] [] M9 (k10 M9)) (fun M9 => ?_) (fun k10 qk10 => ?_)
      · exact qv_vret (pc := 93) g hr rfl dX2_rankBy_93
      refine qv_lv [2, 1, 0] rfl ?_
      exact qv_L3 (Vh := fun (v11 : Int32) (v12 : Int32) (M13 : qv_Mem) o => qv_V G X 4 (qv_QM G X T qv_eV (0, 0)) T (0, 0) 71 [(0, .ref (X.2.2.2 + t)), (2, .int v11), (3, .int v12)] [] M13 o) (fun _ _ _ => qv_none) (fun r14 qr14 v11 v12 M13 => by
        unfold b_X2_rankBy_71
        refine qv_iload_n (pc := 71) g dX2_rankBy_71 rfl rfl ?_
        refine qv_sipush (v := 192) (pc := 72) g dX2_rankBy_72 (by decide) ?_
        refine qv_icmp_ge (pc := 75) (tgt := 93) g dX2_rankBy_75 (by decide) ?_ ?_
        · refine qv_lv [] rfl ?_
          exact qk10 _
        · refine qv_iload_n (pc := 78) g dX2_rankBy_78 rfl rfl ?_
          refine qv_if_eq (pc := 79) (tgt := 93) g dX2_rankBy_79 (by decide) ?_ ?_
          · refine qv_lv [] rfl ?_
            exact qk10 _
          · refine qv_aload_n (pc := 82) g dX2_rankBy_82 rfl rfl ?_
            refine qv_aIM (qv_cv (pc := 83) g (c_X2_improveRanks (gl G) X (d + 3) T _ M13 ht) (qv_R hRm (by omega) (by decide)) ⟨Nat.zero_le _, Nat.zero_le _⟩ mw_X2_improveRanks lk_RX2_109 im_X2_improveRanks se_X2_improveRanks (by decide) rfl ht pd_X2_improveRanks rfl (Nat.le_of_ble_eq_true rfl) dX2_rankBy_83) (fun v15 M16 => ?_)
            refine qv_istore_n (pc := 86) (lv1 := [(2, .int v15), (0, .ref (X.2.2.2 + t)), (3, .int v12)]) g dX2_rankBy_86 rfl (by decide) rfl ?_
            refine qv_iinc (pc := 87) (v := (v12 + 1)) (lv1 := [(3, .int (v12 + 1)), (2, .int v15), (0, .ref (X.2.2.2 + t))]) g dX2_rankBy_87 rfl rfl (by decide) rfl ?_
            refine qv_goto (pc := 90) (tgt := 71) g dX2_rankBy_90 (by decide) ?_
            refine qv_lv [2, 1, 0] rfl ?_
            exact qr14 _ _ _) _ _ _ _
    refine qv_lv [1, 0] rfl ?_
    exact qv_L2 (Vh := fun (v17 : Int32) (M18 : qv_Mem) o => qv_V G X 4 (qv_QM G X T qv_eV (0, 0)) T (0, 0) 39 [(0, .ref (X.2.2.2 + t)), (2, .int v17)] [] M18 o) (fun _ _ => qv_none) (fun r19 qr19 v17 M18 => by
      unfold b_X2_rankBy_39
      refine qv_iload_n (pc := 39) g dX2_rankBy_39 rfl rfl ?_
      refine qv_sipush (v := 192) (pc := 40) g dX2_rankBy_40 (by decide) ?_
      refine qv_icmp_ge (pc := 43) (tgt := 60) g dX2_rankBy_43 (by decide) ?_ ?_
      · refine qv_lv [0] rfl ?_
        exact qk7 _
      · refine qv_aload_n (pc := 46) g dX2_rankBy_46 rfl rfl ?_
        have h3 : qv_is _ T 20 192 (qv_rf T t 5) := ht.to 5 (by decide) (by decide) rfl
        refine qv_getr (pc := 47) g fw_RX2_27 ht (by decide) (by decide) rfl dX2_rankBy_47 ?_
        refine qv_iload_n (pc := 50) g dX2_rankBy_50 rfl rfl ?_
        refine qv_ldc (pc := 51) g ki_RX2_108 dX2_rankBy_51 ?_
        refine qv_iast (pc := 53) g h3 dX2_rankBy_53 (fun M20 => ?_)
        refine qv_iinc (pc := 54) (v := (v17 + 1)) (lv1 := [(2, .int (v17 + 1)), (0, .ref (X.2.2.2 + t))]) g dX2_rankBy_54 rfl rfl (by decide) rfl ?_
        refine qv_goto (pc := 57) (tgt := 39) g dX2_rankBy_57 (by decide) ?_
        refine qv_lv [1, 0] rfl ?_
        exact qr19 _ _) _ _ _
  refine qv_if_eq (pc := 8) (tgt := 20) g dX2_rankBy_8 (by decide) ?_ ?_
  · exact qk3 ()
  · refine qv_aload_n (pc := 11) g dX2_rankBy_11 rfl rfl ?_
    refine qv_aload_n (pc := 12) g dX2_rankBy_12 rfl rfl ?_
    refine qv_aI rfl (qv_cv (pc := 13) g (c_X2_isRankedBy (gl G) X (d + 4) T _ _ M1 ht ht1) (qv_R hRm (by omega) (by decide)) ⟨Nat.zero_le _, Nat.zero_le _⟩ mw_X2_isRankedBy lk_RX2_98 im_X2_isRankedBy se_X2_isRankedBy (by decide) rfl ht pd_X2_isRankedBy rfl (Nat.le_of_ble_eq_true rfl) dX2_rankBy_13) (fun v21 => ?_)
    refine qv_if_eq (pc := 16) (tgt := 20) g dX2_rankBy_16 (by decide) ?_ ?_
    · exact qk3 ()
    · exact qv_vret (pc := 19) g hr rfl dX2_rankBy_19

set_option maxHeartbeats 4000000 in
set_option maxRecDepth 100000 in
theorem c_X2_costOf (l : Launch) (X : qv_X) (d : Nat) (T : List qv_Ent) (t : Nat) (p1 : Int32) (M : qv_Mem) {nt : Nat} (ht : qv_is (nt + 2) T 2 10 t) : qv_Ok l X yX2_costOf cX2_costOf 2 (some .int) (d) T M [.ref (X.2.2.2 + t), .int p1] (qv_eI M) (f_X2_costOf T t p1 M) := by
  refine qv_mk (lv := [(0, .ref (X.2.2.2 + t)), (1, .int p1)]) (by decide) (Nat.le_of_ble_eq_true rfl) rfl (fun G hG hRm g hr => ?_)
  have g : qv_ok G X cX2_costOf RX2 2 := g
  unfold f_X2_costOf
  refine qv_aload_n (pc := 0) g dX2_costOf_0 rfl rfl ?_
  have h1 : qv_is _ T 20 192 (qv_rf T t 5) := ht.to 5 (by decide) (by decide) rfl
  refine qv_getr (pc := 1) g fw_RX2_27 ht (by decide) (by decide) rfl dX2_costOf_1 ?_
  refine qv_iload_n (pc := 4) g dX2_costOf_4 rfl rfl ?_
  refine qv_iald (pc := 5) g h1 dX2_costOf_5 (fun v1 => ?_)
  refine qv_sipush (v := 1024) (pc := 6) g dX2_costOf_6 (by decide) ?_
  refine qv_idiv (pc := 9) g dX2_costOf_9 (by decide) ?_
  exact qv_iret (pc := 10) g hr rfl dX2_costOf_10

