set_option maxHeartbeats 4000000 in
set_option maxRecDepth 100000 in
theorem c_X9_normal (l : Launch) (X : qv_X) (d : Nat) (T : List qv_Ent) (t : Nat) (p1 : Int32) (p2 : Int32) (M : qv_Mem) {nt : Nat} (ht : qv_is (nt + 4) T 9 14 t) : qv_Ok l X yX9_normal cX9_normal 3 (some .int) (d + 6) T M [.ref (X.2.2.2 + t), .int p1, .int p2] qv_eIM (f_X9_normal T t p1 p2 M) := by
  refine qv_mk (lv := [(0, .ref (X.2.2.2 + t)), (1, .int p1), (2, .int p2)]) (by decide) (Nat.le_of_ble_eq_true rfl) rfl (fun G hG hRm g hr => ?_)
  have g : qv_ok G X cX9_normal RX9 3 := g
  unfold f_X9_normal
  refine qv_iload_n (pc := 0) g dX9_normal_0 rfl rfl ?_
  refine qv_aI rfl (qv_cs (pc := 1) g (c_X9_isWord (gl G) X (d + 4) T _ M) (qv_R hRm (by omega) (by decide)) ⟨Nat.zero_le _, Nat.zero_le _⟩ mw_X9_isWord lk_RX9_194 st_X9_isWord pd_X9_isWord rfl (Nat.le_of_ble_eq_true rfl) dX9_normal_1) (fun v1 => ?_)
  refine qv_if_eq (pc := 4) (tgt := 14) g dX9_normal_4 (by decide) ?_ ?_
  · refine qv_iconst (v := (-1)) (pc := 14) g dX9_normal_14 (by decide) ?_
    exact qv_iret (pc := 15) g hr rfl dX9_normal_15
  · refine qv_iload_n (pc := 7) g dX9_normal_7 rfl rfl ?_
    refine qv_aI rfl (qv_cs (pc := 8) g (c_X9_isRegister (gl G) X (d + 4) T _ M) (qv_R hRm (by omega) (by decide)) ⟨Nat.zero_le _, Nat.zero_le _⟩ mw_X9_isRegister lk_RX9_90 st_X9_isRegister pd_X9_isRegister rfl (Nat.le_of_ble_eq_true rfl) dX9_normal_8) (fun v2 => ?_)
    refine qv_if_ne (pc := 11) (tgt := 16) g dX9_normal_11 (by decide) ?_ ?_
    · refine qv_aload_n (pc := 16) g dX9_normal_16 rfl rfl ?_
      have h1 : qv_is _ T 2 10 (qv_rf T t 6) := ht.to 6 (by decide) (by decide) rfl
      refine qv_getr (pc := 17) g fw_RX9_49 ht (by decide) (by decide) rfl dX9_normal_17 ?_
      refine qv_aload_n (pc := 20) g dX9_normal_20 rfl rfl ?_
      have h2 : qv_is _ T 0 3 (qv_rf T t 0) := ht.to 0 (by decide) (by decide) rfl
      refine qv_getr (pc := 21) g fw_RX9_12 ht (by decide) (by decide) rfl dX9_normal_21 ?_
      have h3 : qv_is _ T 20 7 (qv_rf T (qv_rf T t 0) 2) := h2.to 2 (by decide) (by decide) rfl
      refine qv_getr (pc := 24) g fw_RX9_177 h2 (by decide) (by decide) rfl dX9_normal_24 ?_
      refine qv_aV (qv_cv (pc := 27) g (c_X2_rankBy (gl G) X d T _ _ M h1 h3) (qv_R hRm (by omega) (by decide)) ⟨Nat.zero_le _, Nat.zero_le _⟩ mw_X2_rankBy lk_RX9_181 im_X2_rankBy se_X2_rankBy (by decide) rfl h1 pd_X2_rankBy rfl (Nat.le_of_ble_eq_true rfl) dX9_normal_27) (fun M3 => ?_)
      refine qv_aload_n (pc := 30) g dX9_normal_30 rfl rfl ?_
      have h4 : qv_is _ T 4 3 (qv_rf T t 8) := ht.to 8 (by decide) (by decide) rfl
      refine qv_getr (pc := 31) g fw_RX9_63 ht (by decide) (by decide) rfl dX9_normal_31 ?_
      refine qv_aload_n (pc := 34) g dX9_normal_34 rfl rfl ?_
      refine qv_getr (pc := 35) g fw_RX9_12 ht (by decide) (by decide) rfl dX9_normal_35 ?_
      have h5 : qv_is _ T 37 4 (qv_rf T (qv_rf T t 0) 0) := h2.to 0 (by decide) (by decide) rfl
      refine qv_getr (pc := 38) g fw_RX9_94 h2 (by decide) (by decide) rfl dX9_normal_38 ?_
      refine qv_iload_n (pc := 41) g dX9_normal_41 rfl rfl ?_
      refine qv_aald (pc := 42) g (by decide) h5 (fun _ _ => ⟨_, rfl⟩) dX9_normal_42 (fun z4 => ?_)
      have h6 : qv_is _ T 7 2 (qv_rf T (qv_rf T (qv_rf T t 0) 0) p2.toNatClampNeg) := h5.to _ (by decide) (qv_inb_lt z4) rfl
      refine qv_aload_n (pc := 43) g dX9_normal_43 rfl rfl ?_
      refine qv_getr (pc := 44) g fw_RX9_49 ht (by decide) (by decide) rfl dX9_normal_44 ?_
      refine qv_aload_n (pc := 47) g dX9_normal_47 rfl rfl ?_
      have h7 : qv_is _ T 6 2 (qv_rf T t 9) := ht.to 9 (by decide) (by decide) rfl
      refine qv_getr (pc := 48) g fw_RX9_70 ht (by decide) (by decide) rfl dX9_normal_48 ?_
      refine qv_aIM (qv_cv (pc := 51) g (c_X4_form (gl G) X d T _ _ _ _ M3 h4 h6 h1 h7) (qv_R hRm (by omega) (by decide)) ⟨Nat.zero_le _, Nat.zero_le _⟩ mw_X4_form lk_RX9_231 im_X4_form se_X4_form (by decide) rfl h4 pd_X4_form rfl (Nat.le_of_ble_eq_true rfl) dX9_normal_51) (fun v5 M6 => ?_)
      refine qv_if_eq (pc := 54) (tgt := 65) g dX9_normal_54 (by decide) ?_ ?_
      · refine qv_bipush (v := (-3)) (pc := 65) g dX9_normal_65 (by decide) ?_
        exact qv_iret (pc := 67) g hr rfl dX9_normal_67
      · refine qv_aload_n (pc := 57) g dX9_normal_57 rfl rfl ?_
        refine qv_iload_n (pc := 58) g dX9_normal_58 rfl rfl ?_
        refine qv_aIM (qv_cv (pc := 59) g (c_X9_settleWord (gl G) X (d + 3) T _ _ M6 ht) (qv_R hRm (by omega) (by decide)) ⟨Nat.zero_le _, Nat.zero_le _⟩ mw_X9_settleWord lk_RX9_207 im_X9_settleWord se_X9_settleWord (by decide) rfl ht pd_X9_settleWord rfl (Nat.le_of_ble_eq_true rfl) dX9_normal_59) (fun v7 M8 => ?_)
        refine qv_goto (pc := 62) (tgt := 67) g dX9_normal_62 (by decide) ?_
        exact qv_iret (pc := 67) g hr rfl dX9_normal_67
    · refine qv_iconst (v := (-1)) (pc := 14) g dX9_normal_14 (by decide) ?_
      exact qv_iret (pc := 15) g hr rfl dX9_normal_15

set_option maxHeartbeats 4000000 in
set_option maxRecDepth 100000 in
theorem c_X9_fits (l : Launch) (X : qv_X) (d : Nat) (T : List qv_Ent) (t : Nat) (p1 : Int32) (p2 : Int32) (p3 : Int32) (M : qv_Mem) {nt : Nat} (ht : qv_is (nt + 4) T 9 14 t) : qv_Ok l X yX9_fits cX9_fits 7 (some .int) (d + 4) T M [.ref (X.2.2.2 + t), .int p1, .int p2, .int p3] qv_eIM (f_X9_fits T t p1 p2 p3 M) := by
  refine qv_mk (lv := [(0, .ref (X.2.2.2 + t)), (1, .int p1), (2, .int p2), (3, .int p3)]) (by decide) (Nat.le_of_ble_eq_true rfl) rfl (fun G hG hRm g hr => ?_)
  have g : qv_ok G X cX9_fits RX9 7 := g
  unfold f_X9_fits
  refine qv_iload_n (pc := 0) g dX9_fits_0 rfl rfl ?_
  refine qv_aI rfl (qv_cs (pc := 1) g (c_X9_isWord (gl G) X (d + 2) T _ M) (qv_R hRm (by omega) (by decide)) ⟨Nat.zero_le _, Nat.zero_le _⟩ mw_X9_isWord lk_RX9_194 st_X9_isWord pd_X9_isWord rfl (Nat.le_of_ble_eq_true rfl) dX9_fits_1) (fun v1 => ?_)
  refine qv_if_eq (pc := 4) (tgt := 33) g dX9_fits_4 (by decide) ?_ ?_
  · refine qv_iconst (v := (-1)) (pc := 33) g dX9_fits_33 (by decide) ?_
    exact qv_iret (pc := 34) g hr rfl dX9_fits_34
  · refine qv_iload_n (pc := 7) g dX9_fits_7 rfl rfl ?_
    refine qv_aload_n (pc := 8) g dX9_fits_8 rfl rfl ?_
    have h1 : qv_is _ T 0 3 (qv_rf T t 0) := ht.to 0 (by decide) (by decide) rfl
    refine qv_getr (pc := 9) g fw_RX9_12 ht (by decide) (by decide) rfl dX9_fits_9 ?_
    have h2 : qv_is _ T 36 3 (qv_rf T (qv_rf T t 0) 1) := h1.to 1 (by decide) (by decide) rfl
    refine qv_getr (pc := 12) g fw_RX9_197 h1 (by decide) (by decide) rfl dX9_fits_12 ?_
    refine qv_iload_n (pc := 15) g dX9_fits_15 rfl rfl ?_
    refine qv_aald (pc := 16) g (by decide) h2 (fun _ _ => ⟨_, rfl⟩) dX9_fits_16 (fun z2 => ?_)
    have h3 : qv_is _ T 6 2 (qv_rf T (qv_rf T (qv_rf T t 0) 1) p1.toNatClampNeg) := h2.to _ (by decide) (qv_inb_lt z2) rfl
    refine qv_gets (pc := 17) g fw_RX9_210 h3 (by decide) (by decide) rfl dX9_fits_17 (fun v3 => ?_)
    refine qv_aI rfl (qv_cs (pc := 20) g (c_X9_isBelow (gl G) X (d + 3) T _ _ M) (qv_R hRm (by omega) (by decide)) ⟨Nat.zero_le _, Nat.zero_le _⟩ mw_X9_isBelow lk_RX9_133 st_X9_isBelow pd_X9_isBelow rfl (Nat.le_of_ble_eq_true rfl) dX9_fits_20) (fun v4 => ?_)
    refine qv_if_eq (pc := 23) (tgt := 33) g dX9_fits_23 (by decide) ?_ ?_
    · refine qv_iconst (v := (-1)) (pc := 33) g dX9_fits_33 (by decide) ?_
      exact qv_iret (pc := 34) g hr rfl dX9_fits_34
    · refine qv_iload_n (pc := 26) g dX9_fits_26 rfl rfl ?_
      refine qv_aI rfl (qv_cs (pc := 27) g (c_X9_isRegister (gl G) X (d + 2) T _ M) (qv_R hRm (by omega) (by decide)) ⟨Nat.zero_le _, Nat.zero_le _⟩ mw_X9_isRegister lk_RX9_90 st_X9_isRegister pd_X9_isRegister rfl (Nat.le_of_ble_eq_true rfl) dX9_fits_27) (fun v5 => ?_)
      refine qv_if_ne (pc := 30) (tgt := 35) g dX9_fits_30 (by decide) ?_ ?_
      · refine qv_aload_n (pc := 35) g dX9_fits_35 rfl rfl ?_
        refine qv_getr (pc := 36) g fw_RX9_12 ht (by decide) (by decide) rfl dX9_fits_36 ?_
        refine qv_getr (pc := 39) g fw_RX9_197 h1 (by decide) (by decide) rfl dX9_fits_39 ?_
        refine qv_iload_n (pc := 42) g dX9_fits_42 rfl rfl ?_
        refine qv_aald (pc := 43) g (by decide) h2 (fun _ _ => ⟨_, rfl⟩) dX9_fits_43 (fun z6 => ?_)
        have h4 : qv_is _ T 6 2 (qv_rf T (qv_rf T (qv_rf T t 0) 1) p1.toNatClampNeg) := h2.to _ (by decide) (qv_inb_lt z6) rfl
        refine qv_astore (pc := 44) (lv1 := [(4, .ref (X.2.2.2 + (qv_rf T (qv_rf T (qv_rf T t 0) 1) p1.toNatClampNeg))), (0, .ref (X.2.2.2 + t)), (1, .int p1), (2, .int p2), (3, .int p3)]) g dX9_fits_44 (by decide) rfl ?_
        refine qv_aload_n (pc := 46) g dX9_fits_46 rfl rfl ?_
        have h5 : qv_is _ T 7 2 (qv_rf T t 11) := ht.to 11 (by decide) (by decide) rfl
        refine qv_getr (pc := 47) g fw_RX9_81 ht (by decide) (by decide) rfl dX9_fits_47 ?_
        refine qv_aV (qv_cv (pc := 50) g (c_X7_makeUnit (gl G) X (d + 2) T _ M h5) (qv_R hRm (by omega) (by decide)) ⟨Nat.zero_le _, Nat.zero_le _⟩ mw_X7_makeUnit lk_RX9_102 im_X7_makeUnit se_X7_makeUnit (by decide) rfl h5 pd_X7_makeUnit rfl (Nat.le_of_ble_eq_true rfl) dX9_fits_50) (fun M7 => ?_)
        refine qv_aload_n (pc := 53) g dX9_fits_53 rfl rfl ?_
        refine qv_getr (pc := 54) g fw_RX9_81 ht (by decide) (by decide) rfl dX9_fits_54 ?_
        refine qv_aload (pc := 57) g dX9_fits_57 rfl ?_
        refine qv_iconst (v := 0) (pc := 59) g dX9_fits_59 (by decide) ?_
        refine qv_iload_n (pc := 60) g dX9_fits_60 rfl rfl ?_
        refine qv_aV (qv_cv (pc := 61) g (c_X7_applyRow (gl G) X d T _ _ _ _ M7 h5 h4) (qv_R hRm (by omega) (by decide)) ⟨Nat.zero_le _, Nat.zero_le _⟩ mw_X7_applyRow lk_RX9_224 im_X7_applyRow se_X7_applyRow (by decide) rfl h5 pd_X7_applyRow rfl (Nat.le_of_ble_eq_true rfl) dX9_fits_61) (fun M8 => ?_)
        refine qv_aload_n (pc := 64) g dX9_fits_64 rfl rfl ?_
        have h6 : qv_is _ T 7 2 (qv_rf T t 12) := ht.to 12 (by decide) (by decide) rfl
        refine qv_getr (pc := 65) g fw_RX9_84 ht (by decide) (by decide) rfl dX9_fits_65 ?_
        refine qv_aV (qv_cv (pc := 68) g (c_X7_makeUnit (gl G) X (d + 2) T _ M8 h6) (qv_R hRm (by omega) (by decide)) ⟨Nat.zero_le _, Nat.zero_le _⟩ mw_X7_makeUnit lk_RX9_102 im_X7_makeUnit se_X7_makeUnit (by decide) rfl h6 pd_X7_makeUnit rfl (Nat.le_of_ble_eq_true rfl) dX9_fits_68) (fun M9 => ?_)
        refine qv_aload_n (pc := 71) g dX9_fits_71 rfl rfl ?_
        refine qv_getr (pc := 72) g fw_RX9_84 ht (by decide) (by decide) rfl dX9_fits_72 ?_
        refine qv_aload (pc := 75) g dX9_fits_75 rfl ?_
        refine qv_iload_n (pc := 77) g dX9_fits_77 rfl rfl ?_
        refine qv_iconst (v := 1) (pc := 78) g dX9_fits_78 (by decide) ?_
        refine qv_iadd (pc := 79) g dX9_fits_79 ?_
        refine qv_aload (pc := 80) g dX9_fits_80 rfl ?_
        refine qv_gets (pc := 82) g fw_RX9_210 h4 (by decide) (by decide) rfl dX9_fits_82 (fun v10 => ?_)
        refine qv_aV (qv_cv (pc := 85) g (c_X7_applyRow (gl G) X d T _ _ _ _ M9 h6 h4) (qv_R hRm (by omega) (by decide)) ⟨Nat.zero_le _, Nat.zero_le _⟩ mw_X7_applyRow lk_RX9_224 im_X7_applyRow se_X7_applyRow (by decide) rfl h6 pd_X7_applyRow rfl (Nat.le_of_ble_eq_true rfl) dX9_fits_85) (fun M11 => ?_)
        refine qv_iconst (v := 0) (pc := 88) g dX9_fits_88 (by decide) ?_
        refine qv_istore (pc := 89) (lv1 := [(5, .int 0), (4, .ref (X.2.2.2 + (qv_rf T (qv_rf T (qv_rf T t 0) 1) p1.toNatClampNeg))), (0, .ref (X.2.2.2 + t)), (1, .int p1), (2, .int p2), (3, .int p3)]) g dX9_fits_89 (by decide) rfl ?_
        refine qv_iconst (v := 0) (pc := 91) g dX9_fits_91 (by decide) ?_
        refine qv_istore (pc := 92) (lv1 := [(6, .int 0), (5, .int 0), (4, .ref (X.2.2.2 + (qv_rf T (qv_rf T (qv_rf T t 0) 1) p1.toNatClampNeg))), (0, .ref (X.2.2.2 + t)), (1, .int p1), (2, .int p2), (3, .int p3)]) g dX9_fits_92 (by decide) rfl ?_
        refine qv_join (fun (k14 : Int32 → qv_Mem → Option (Int32 × qv_Mem)) => ∀ (v12 : Int32) (M13 : qv_Mem), qv_V G X 7 (qv_QM G X T qv_eIM (0, 0)) T (0, 0) 177 [(5, .int v12)] [] M13 (k14 v12 M13)) (fun v12 M13 => ?_) (fun k14 qk14 => ?_)
        · refine qv_iload (pc := 177) g dX9_fits_177 rfl ?_
          exact qv_iret (pc := 179) g hr rfl dX9_fits_179
        refine qv_lv [3, 6, 1, 0] rfl ?_
        exact qv_L3 (Vh := fun (v15 : Int32) (v16 : Int32) (M17 : qv_Mem) o => qv_V G X 7 (qv_QM G X T qv_eIM (0, 0)) T (0, 0) 94 [(0, .ref (X.2.2.2 + t)), (3, .int p3), (5, .int v15), (6, .int v16)] [] M17 o) (fun _ _ _ => qv_none) (fun r18 qr18 v15 v16 M17 => by
          unfold b_X9_fits_94
          refine qv_iload (pc := 94) g dX9_fits_94 rfl ?_
          refine qv_bipush (v := 7) (pc := 96) g dX9_fits_96 (by decide) ?_
          refine qv_icmp_ge (pc := 98) (tgt := 177) g dX9_fits_98 (by decide) ?_ ?_
          · refine qv_lv [2] rfl ?_
            exact qk14 _ _
          · refine qv_aload_n (pc := 101) g dX9_fits_101 rfl rfl ?_
            have h7 : qv_is _ T 7 2 (qv_rf T t 13) := ht.to 13 (by decide) (by decide) rfl
            refine qv_getr (pc := 102) g fw_RX9_87 ht (by decide) (by decide) rfl dX9_fits_102 ?_
            refine qv_aload_n (pc := 105) g dX9_fits_105 rfl rfl ?_
            refine qv_getr (pc := 106) g fw_RX9_81 ht (by decide) (by decide) rfl dX9_fits_106 ?_
            refine qv_aV (qv_cv (pc := 109) g (c_X7_makeCopy (gl G) X (d + 3) T _ _ M17 h7 h5) (qv_R hRm (by omega) (by decide)) ⟨Nat.zero_le _, Nat.zero_le _⟩ mw_X7_makeCopy lk_RX9_108 im_X7_makeCopy se_X7_makeCopy (by decide) rfl h7 pd_X7_makeCopy rfl (Nat.le_of_ble_eq_true rfl) dX9_fits_109) (fun M19 => ?_)
            refine qv_aload_n (pc := 112) g dX9_fits_112 rfl rfl ?_
            refine qv_getr (pc := 113) g fw_RX9_87 ht (by decide) (by decide) rfl dX9_fits_113 ?_
            refine qv_iload (pc := 116) g dX9_fits_116 rfl ?_
            refine qv_aV (qv_cv (pc := 118) g (c_X7_applyBehind (gl G) X (d + 1) T _ _ M19 h7) (qv_R hRm (by omega) (by decide)) ⟨Nat.zero_le _, Nat.zero_le _⟩ mw_X7_applyBehind lk_RX9_112 im_X7_applyBehind se_X7_applyBehind (by decide) rfl h7 pd_X7_applyBehind rfl (Nat.le_of_ble_eq_true rfl) dX9_fits_118) (fun M20 => ?_)
            refine qv_aload_n (pc := 121) g dX9_fits_121 rfl rfl ?_
            have h8 : qv_is _ T 7 2 (qv_rf T t 10) := ht.to 10 (by decide) (by decide) rfl
            refine qv_getr (pc := 122) g fw_RX9_77 ht (by decide) (by decide) rfl dX9_fits_122 ?_
            refine qv_aload_n (pc := 125) g dX9_fits_125 rfl rfl ?_
            refine qv_getr (pc := 126) g fw_RX9_87 ht (by decide) (by decide) rfl dX9_fits_126 ?_
            refine qv_aload_n (pc := 129) g dX9_fits_129 rfl rfl ?_
            refine qv_getr (pc := 130) g fw_RX9_84 ht (by decide) (by decide) rfl dX9_fits_130 ?_
            refine qv_aV (qv_cv (pc := 133) g (c_X7_makeProduct (gl G) X (d + 2) T _ _ _ M20 h8 h7 h6) (qv_R hRm (by omega) (by decide)) ⟨Nat.zero_le _, Nat.zero_le _⟩ mw_X7_makeProduct lk_RX9_123 im_X7_makeProduct se_X7_makeProduct (by decide) rfl h8 pd_X7_makeProduct rfl (Nat.le_of_ble_eq_true rfl) dX9_fits_133) (fun M21 => ?_)
            refine qv_aload_n (pc := 136) g dX9_fits_136 rfl rfl ?_
            refine qv_getr (pc := 137) g fw_RX9_77 ht (by decide) (by decide) rfl dX9_fits_137 ?_
            refine qv_aV (qv_cv (pc := 140) g (c_X7_lower (gl G) X (d + 2) T _ M21 h8) (qv_R hRm (by omega) (by decide)) ⟨Nat.zero_le _, Nat.zero_le _⟩ mw_X7_lower lk_RX9_127 im_X7_lower se_X7_lower (by decide) rfl h8 pd_X7_lower rfl (Nat.le_of_ble_eq_true rfl) dX9_fits_140) (fun M22 => ?_)
            refine qv_aload_n (pc := 143) g dX9_fits_143 rfl rfl ?_
            refine qv_getr (pc := 144) g fw_RX9_77 ht (by decide) (by decide) rfl dX9_fits_144 ?_
            refine qv_aload_n (pc := 147) g dX9_fits_147 rfl rfl ?_
            refine qv_getr (pc := 148) g fw_RX9_12 ht (by decide) (by decide) rfl dX9_fits_148 ?_
            have h9 : qv_is _ T 37 4 (qv_rf T (qv_rf T t 0) 0) := h1.to 0 (by decide) (by decide) rfl
            refine qv_getr (pc := 151) g fw_RX9_94 h1 (by decide) (by decide) rfl dX9_fits_151 ?_
            refine qv_iload_n (pc := 154) g dX9_fits_154 rfl rfl ?_
            refine qv_aald (pc := 155) g (by decide) h9 (fun _ _ => ⟨_, rfl⟩) dX9_fits_155 (fun z23 => ?_)
            have h10 : qv_is _ T 7 2 (qv_rf T (qv_rf T (qv_rf T t 0) 0) p3.toNatClampNeg) := h9.to _ (by decide) (qv_inb_lt z23) rfl
            refine qv_aI rfl (qv_cv (pc := 156) g (c_X7_isSame (gl G) X (d + 3) T _ _ M22 h8 h10) (qv_R hRm (by omega) (by decide)) ⟨Nat.zero_le _, Nat.zero_le _⟩ mw_X7_isSame lk_RX9_147 im_X7_isSame se_X7_isSame (by decide) rfl h8 pd_X7_isSame rfl (Nat.le_of_ble_eq_true rfl) dX9_fits_156) (fun v24 => ?_)
            refine qv_join (fun (k26 : Int32 → Option (Int32 × qv_Mem)) => ∀ (v25 : Int32), qv_V G X 7 (qv_QM G X T qv_eIM (0, 0)) T (0, 0) 171 [(0, .ref (X.2.2.2 + t)), (3, .int p3), (5, .int v25), (6, .int v16)] [] M22 (k26 v25)) (fun v25 => ?_) (fun k26 qk26 => ?_)
            · refine qv_iinc (pc := 171) (v := (v16 + 1)) (lv1 := [(6, .int (v16 + 1)), (0, .ref (X.2.2.2 + t)), (3, .int p3), (5, .int v25)]) g dX9_fits_171 rfl rfl (by decide) rfl ?_
              refine qv_goto (pc := 174) (tgt := 94) g dX9_fits_174 (by decide) ?_
              refine qv_lv [1, 2, 3, 0] rfl ?_
              exact qr18 _ _ _
            refine qv_if_eq (pc := 159) (tgt := 171) g dX9_fits_159 (by decide) ?_ ?_
            · exact qk26 _
            · refine qv_iload (pc := 162) g dX9_fits_162 rfl ?_
              refine qv_iconst (v := 1) (pc := 164) g dX9_fits_164 (by decide) ?_
              refine qv_iload (pc := 165) g dX9_fits_165 rfl ?_
              refine qv_ishl (pc := 167) g dX9_fits_167 ?_
              refine qv_ior (pc := 168) g dX9_fits_168 ?_
              refine qv_istore (pc := 169) (lv1 := [(5, .int (v15 ||| (1 <<< (v16 &&& 31)))), (0, .ref (X.2.2.2 + t)), (3, .int p3), (6, .int v16)]) g dX9_fits_169 (by decide) rfl ?_
              refine qv_lv [1, 2, 0, 3] rfl ?_
              exact qk26 _) _ _ _ _
      · refine qv_iconst (v := (-1)) (pc := 33) g dX9_fits_33 (by decide) ?_
        exact qv_iret (pc := 34) g hr rfl dX9_fits_34

set_option maxHeartbeats 4000000 in
set_option maxRecDepth 100000 in
theorem c_X9_parts (l : Launch) (X : qv_X) (d : Nat) (T : List qv_Ent) (t : Nat) (p1 : Int32) (p2 : Int32) (M : qv_Mem) {nt : Nat} (ht : qv_is (nt + 4) T 9 14 t) : qv_Ok l X yX9_parts cX9_parts 5 (some .int) (d + 4) T M [.ref (X.2.2.2 + t), .int p1, .int p2] qv_eIM (f_X9_parts T t p1 p2 M) := by
  refine qv_mk (lv := [(0, .ref (X.2.2.2 + t)), (1, .int p1), (2, .int p2)]) (by decide) (Nat.le_of_ble_eq_true rfl) rfl (fun G hG hRm g hr => ?_)
  have g : qv_ok G X cX9_parts RX9 5 := g
  unfold f_X9_parts
  refine qv_iload_n (pc := 0) g dX9_parts_0 rfl rfl ?_
  refine qv_aI rfl (qv_cs (pc := 1) g (c_X9_isWord (gl G) X (d + 2) T _ M) (qv_R hRm (by omega) (by decide)) ⟨Nat.zero_le _, Nat.zero_le _⟩ mw_X9_isWord lk_RX9_194 st_X9_isWord pd_X9_isWord rfl (Nat.le_of_ble_eq_true rfl) dX9_parts_1) (fun v1 => ?_)
  refine qv_if_eq (pc := 4) (tgt := 14) g dX9_parts_4 (by decide) ?_ ?_
  · refine qv_iconst (v := (-1)) (pc := 14) g dX9_parts_14 (by decide) ?_
    exact qv_iret (pc := 15) g hr rfl dX9_parts_15
  · refine qv_iload_n (pc := 7) g dX9_parts_7 rfl rfl ?_
    refine qv_aI rfl (qv_cs (pc := 8) g (c_X9_isWord (gl G) X (d + 2) T _ M) (qv_R hRm (by omega) (by decide)) ⟨Nat.zero_le _, Nat.zero_le _⟩ mw_X9_isWord lk_RX9_194 st_X9_isWord pd_X9_isWord rfl (Nat.le_of_ble_eq_true rfl) dX9_parts_8) (fun v2 => ?_)
    refine qv_if_ne (pc := 11) (tgt := 16) g dX9_parts_11 (by decide) ?_ ?_
    · refine qv_aload_n (pc := 16) g dX9_parts_16 rfl rfl ?_
      have h1 : qv_is _ T 7 2 (qv_rf T t 11) := ht.to 11 (by decide) (by decide) rfl
      refine qv_getr (pc := 17) g fw_RX9_81 ht (by decide) (by decide) rfl dX9_parts_17 ?_
      refine qv_aV (qv_cv (pc := 20) g (c_X7_makeUnit (gl G) X (d + 2) T _ M h1) (qv_R hRm (by omega) (by decide)) ⟨Nat.zero_le _, Nat.zero_le _⟩ mw_X7_makeUnit lk_RX9_102 im_X7_makeUnit se_X7_makeUnit (by decide) rfl h1 pd_X7_makeUnit rfl (Nat.le_of_ble_eq_true rfl) dX9_parts_20) (fun M3 => ?_)
      refine qv_aload_n (pc := 23) g dX9_parts_23 rfl rfl ?_
      have h2 : qv_is _ T 7 2 (qv_rf T t 13) := ht.to 13 (by decide) (by decide) rfl
      refine qv_getr (pc := 24) g fw_RX9_87 ht (by decide) (by decide) rfl dX9_parts_24 ?_
      refine qv_aV (qv_cv (pc := 27) g (c_X7_makeUnit (gl G) X (d + 2) T _ M3 h2) (qv_R hRm (by omega) (by decide)) ⟨Nat.zero_le _, Nat.zero_le _⟩ mw_X7_makeUnit lk_RX9_102 im_X7_makeUnit se_X7_makeUnit (by decide) rfl h2 pd_X7_makeUnit rfl (Nat.le_of_ble_eq_true rfl) dX9_parts_27) (fun M4 => ?_)
      refine qv_aload_n (pc := 30) g dX9_parts_30 rfl rfl ?_
      have h3 : qv_is _ T 0 3 (qv_rf T t 0) := ht.to 0 (by decide) (by decide) rfl
      refine qv_getr (pc := 31) g fw_RX9_12 ht (by decide) (by decide) rfl dX9_parts_31 ?_
      have h4 : qv_is _ T 36 3 (qv_rf T (qv_rf T t 0) 1) := h3.to 1 (by decide) (by decide) rfl
      refine qv_getr (pc := 34) g fw_RX9_197 h3 (by decide) (by decide) rfl dX9_parts_34 ?_
      refine qv_iload_n (pc := 37) g dX9_parts_37 rfl rfl ?_
      refine qv_aald (pc := 38) g (by decide) h4 (fun _ _ => ⟨_, rfl⟩) dX9_parts_38 (fun z5 => ?_)
      have h5 : qv_is _ T 6 2 (qv_rf T (qv_rf T (qv_rf T t 0) 1) p1.toNatClampNeg) := h4.to _ (by decide) (qv_inb_lt z5) rfl
      refine qv_gets (pc := 39) g fw_RX9_210 h5 (by decide) (by decide) rfl dX9_parts_39 (fun v6 => ?_)
      refine qv_aload_n (pc := 42) g dX9_parts_42 rfl rfl ?_
      refine qv_getr (pc := 43) g fw_RX9_12 ht (by decide) (by decide) rfl dX9_parts_43 ?_
      refine qv_getr (pc := 46) g fw_RX9_197 h3 (by decide) (by decide) rfl dX9_parts_46 ?_
      refine qv_iload_n (pc := 49) g dX9_parts_49 rfl rfl ?_
      refine qv_aald (pc := 50) g (by decide) h4 (fun _ _ => ⟨_, rfl⟩) dX9_parts_50 (fun z7 => ?_)
      have h6 : qv_is _ T 6 2 (qv_rf T (qv_rf T (qv_rf T t 0) 1) p2.toNatClampNeg) := h4.to _ (by decide) (qv_inb_lt z7) rfl
      refine qv_gets (pc := 51) g fw_RX9_210 h6 (by decide) (by decide) rfl dX9_parts_51 (fun v8 => ?_)
      refine qv_mmax (pc := 54) g lk_RX9_235 st_math_max ini_math cd_math_max (Nat.le_of_ble_eq_true rfl) ⟨Nat.zero_le _, Nat.zero_le _⟩ dX9_parts_54 ?_
      refine qv_istore_n (pc := 57) (lv1 := [(3, .int (if v6 < v8 then v8 else v6)), (0, .ref (X.2.2.2 + t)), (1, .int p1), (2, .int p2)]) g dX9_parts_57 rfl (by decide) rfl ?_
      refine qv_iconst (v := 0) (pc := 58) g dX9_parts_58 (by decide) ?_
      refine qv_istore (pc := 59) (lv1 := [(4, .int 0), (3, .int (if v6 < v8 then v8 else v6)), (0, .ref (X.2.2.2 + t)), (1, .int p1), (2, .int p2)]) g dX9_parts_59 (by decide) rfl ?_
      refine qv_join (fun (k10 : qv_Mem → Option (Int32 × qv_Mem)) => ∀ (M9 : qv_Mem), qv_V G X 5 (qv_QM G X T qv_eIM (0, 0)) T (0, 0) 134 [] [] M9 (k10 M9)) (fun M9 => ?_) (fun k10 qk10 => ?_)
      · refine qv_bipush (v := (-2)) (pc := 134) g dX9_parts_134 (by decide) ?_
        exact qv_iret (pc := 136) g hr rfl dX9_parts_136
      refine qv_lv [2, 3, 4, 1, 0] rfl ?_
      exact qv_L2 (Vh := fun (v11 : Int32) (M12 : qv_Mem) o => qv_V G X 5 (qv_QM G X T qv_eIM (0, 0)) T (0, 0) 61 [(0, .ref (X.2.2.2 + t)), (1, .int p1), (2, .int p2), (3, .int (if v6 < v8 then v8 else v6)), (4, .int v11)] [] M12 o) (fun _ _ => qv_none) (fun r13 qr13 v11 M12 => by
        unfold b_X9_parts_61
        refine qv_iload (pc := 61) g dX9_parts_61 rfl ?_
        refine qv_iload_n (pc := 63) g dX9_parts_63 rfl rfl ?_
        refine qv_icmp_ge (pc := 64) (tgt := 134) g dX9_parts_64 (by decide) ?_ ?_
        · refine qv_lv [] rfl ?_
          exact qk10 _
        · refine qv_aload_n (pc := 67) g dX9_parts_67 rfl rfl ?_
          refine qv_getr (pc := 68) g fw_RX9_81 ht (by decide) (by decide) rfl dX9_parts_68 ?_
          refine qv_aload_n (pc := 71) g dX9_parts_71 rfl rfl ?_
          refine qv_getr (pc := 72) g fw_RX9_12 ht (by decide) (by decide) rfl dX9_parts_72 ?_
          refine qv_getr (pc := 75) g fw_RX9_197 h3 (by decide) (by decide) rfl dX9_parts_75 ?_
          refine qv_iload_n (pc := 78) g dX9_parts_78 rfl rfl ?_
          refine qv_aald (pc := 79) g (by decide) h4 (fun _ _ => ⟨_, rfl⟩) dX9_parts_79 (fun z14 => ?_)
          have h7 : qv_is _ T 6 2 (qv_rf T (qv_rf T (qv_rf T t 0) 1) p1.toNatClampNeg) := h4.to _ (by decide) (qv_inb_lt z14) rfl
          refine qv_iload (pc := 80) g dX9_parts_80 rfl ?_
          refine qv_iload (pc := 82) g dX9_parts_82 rfl ?_
          refine qv_iconst (v := 1) (pc := 84) g dX9_parts_84 (by decide) ?_
          refine qv_iadd (pc := 85) g dX9_parts_85 ?_
          refine qv_aV (qv_cv (pc := 86) g (c_X7_applyRow (gl G) X d T _ _ _ _ M12 h1 h7) (qv_R hRm (by omega) (by decide)) ⟨Nat.zero_le _, Nat.zero_le _⟩ mw_X7_applyRow lk_RX9_224 im_X7_applyRow se_X7_applyRow (by decide) rfl h1 pd_X7_applyRow rfl (Nat.le_of_ble_eq_true rfl) dX9_parts_86) (fun M15 => ?_)
          refine qv_aload_n (pc := 89) g dX9_parts_89 rfl rfl ?_
          refine qv_getr (pc := 90) g fw_RX9_87 ht (by decide) (by decide) rfl dX9_parts_90 ?_
          refine qv_aload_n (pc := 93) g dX9_parts_93 rfl rfl ?_
          refine qv_getr (pc := 94) g fw_RX9_12 ht (by decide) (by decide) rfl dX9_parts_94 ?_
          refine qv_getr (pc := 97) g fw_RX9_197 h3 (by decide) (by decide) rfl dX9_parts_97 ?_
          refine qv_iload_n (pc := 100) g dX9_parts_100 rfl rfl ?_
          refine qv_aald (pc := 101) g (by decide) h4 (fun _ _ => ⟨_, rfl⟩) dX9_parts_101 (fun z16 => ?_)
          have h8 : qv_is _ T 6 2 (qv_rf T (qv_rf T (qv_rf T t 0) 1) p2.toNatClampNeg) := h4.to _ (by decide) (qv_inb_lt z16) rfl
          refine qv_iload (pc := 102) g dX9_parts_102 rfl ?_
          refine qv_iload (pc := 104) g dX9_parts_104 rfl ?_
          refine qv_iconst (v := 1) (pc := 106) g dX9_parts_106 (by decide) ?_
          refine qv_iadd (pc := 107) g dX9_parts_107 ?_
          refine qv_aV (qv_cv (pc := 108) g (c_X7_applyRow (gl G) X d T _ _ _ _ M15 h2 h8) (qv_R hRm (by omega) (by decide)) ⟨Nat.zero_le _, Nat.zero_le _⟩ mw_X7_applyRow lk_RX9_224 im_X7_applyRow se_X7_applyRow (by decide) rfl h2 pd_X7_applyRow rfl (Nat.le_of_ble_eq_true rfl) dX9_parts_108) (fun M17 => ?_)
          refine qv_aload_n (pc := 111) g dX9_parts_111 rfl rfl ?_
          refine qv_getr (pc := 112) g fw_RX9_81 ht (by decide) (by decide) rfl dX9_parts_112 ?_
          refine qv_aload_n (pc := 115) g dX9_parts_115 rfl rfl ?_
          refine qv_getr (pc := 116) g fw_RX9_87 ht (by decide) (by decide) rfl dX9_parts_116 ?_
          refine qv_aI rfl (qv_cv (pc := 119) g (c_X7_isSame (gl G) X (d + 3) T _ _ M17 h1 h2) (qv_R hRm (by omega) (by decide)) ⟨Nat.zero_le _, Nat.zero_le _⟩ mw_X7_isSame lk_RX9_147 im_X7_isSame se_X7_isSame (by decide) rfl h1 pd_X7_isSame rfl (Nat.le_of_ble_eq_true rfl) dX9_parts_119) (fun v18 => ?_)
          refine qv_if_ne (pc := 122) (tgt := 128) g dX9_parts_122 (by decide) ?_ ?_
          · refine qv_iinc (pc := 128) (v := (v11 + 1)) (lv1 := [(4, .int (v11 + 1)), (0, .ref (X.2.2.2 + t)), (1, .int p1), (2, .int p2), (3, .int (if v6 < v8 then v8 else v6))]) g dX9_parts_128 rfl rfl (by decide) rfl ?_
            refine qv_goto (pc := 131) (tgt := 61) g dX9_parts_131 (by decide) ?_
            refine qv_lv [1, 2, 3, 4, 0] rfl ?_
            exact qr13 _ _
          · refine qv_iload (pc := 125) g dX9_parts_125 rfl ?_
            exact qv_iret (pc := 127) g hr rfl dX9_parts_127) _ _ _
    · refine qv_iconst (v := (-1)) (pc := 14) g dX9_parts_14 (by decide) ?_
      exact qv_iret (pc := 15) g hr rfl dX9_parts_15

set_option maxHeartbeats 4000000 in
set_option maxRecDepth 100000 in
theorem c_X3_giveBack (l : Launch) (X : qv_X) (d : Nat) (T : List qv_Ent) (t : Nat) (t1 : Nat) (M : qv_Mem) {nt : Nat} (ht : qv_is (nt + 3) T 3 4 t) {nt1 : Nat} (ht1 : qv_is (nt1 + 2) T 36 3 t1) : qv_Ok l X yX3_giveBack cX3_giveBack 2 none (d + 1) T M [.ref (X.2.2.2 + t), .ref (X.2.2.2 + t1)] qv_eV (f_X3_giveBack T t t1 M) := by
  refine qv_mk (lv := [(0, .ref (X.2.2.2 + t)), (1, .ref (X.2.2.2 + t1))]) (by decide) (Nat.le_of_ble_eq_true rfl) rfl (fun G hG hRm g hr => ?_)
  have g : qv_ok G X cX3_giveBack RX3 2 := g
  unfold f_X3_giveBack
  refine qv_aload_n (pc := 0) g dX3_giveBack_0 rfl rfl ?_
  refine qv_gets (pc := 1) g fw_RX3_25 ht (by decide) (by decide) rfl dX3_giveBack_1 (fun v1 => ?_)
  refine qv_if_ne (pc := 4) (tgt := 8) g dX3_giveBack_4 (by decide) ?_ ?_
  · refine qv_aload_n (pc := 8) g dX3_giveBack_8 rfl rfl ?_
    refine qv_aload_n (pc := 9) g dX3_giveBack_9 rfl rfl ?_
    refine qv_gets (pc := 10) g fw_RX3_21 ht (by decide) (by decide) rfl dX3_giveBack_10 (fun v2 => ?_)
    refine qv_bipush (v := 8) (pc := 13) g dX3_giveBack_13 (by decide) ?_
    refine qv_iadd (pc := 15) g dX3_giveBack_15 ?_
    refine qv_iconst (v := 1) (pc := 16) g dX3_giveBack_16 (by decide) ?_
    refine qv_isub (pc := 17) g dX3_giveBack_17 ?_
    refine qv_bipush (v := 8) (pc := 18) g dX3_giveBack_18 (by decide) ?_
    refine qv_irem (pc := 20) g dX3_giveBack_20 (by decide) ?_
    refine qv_puti (pc := 21) g pw_RX3_21 ht (by decide) (by decide) rfl dX3_giveBack_21 (fun M3 => ?_)
    refine qv_aload_n (pc := 24) g dX3_giveBack_24 rfl rfl ?_
    refine qv_dup (pc := 25) g dX3_giveBack_25 rfl ?_
    refine qv_gets (pc := 26) g fw_RX3_25 ht (by decide) (by decide) rfl dX3_giveBack_26 (fun v4 => ?_)
    refine qv_iconst (v := 1) (pc := 29) g dX3_giveBack_29 (by decide) ?_
    refine qv_isub (pc := 30) g dX3_giveBack_30 ?_
    refine qv_puti (pc := 31) g pw_RX3_25 ht (by decide) (by decide) rfl dX3_giveBack_31 (fun M5 => ?_)
    refine qv_aload_n (pc := 34) g dX3_giveBack_34 rfl rfl ?_
    refine qv_aload_n (pc := 35) g dX3_giveBack_35 rfl rfl ?_
    have h1 : qv_is _ T 20 8 (qv_rf T t 1) := ht.to 1 (by decide) (by decide) rfl
    refine qv_getr (pc := 36) g fw_RX3_17 ht (by decide) (by decide) rfl dX3_giveBack_36 ?_
    refine qv_aload_n (pc := 39) g dX3_giveBack_39 rfl rfl ?_
    refine qv_gets (pc := 40) g fw_RX3_21 ht (by decide) (by decide) rfl dX3_giveBack_40 (fun v6 => ?_)
    refine qv_iald (pc := 43) g h1 dX3_giveBack_43 (fun v7 => ?_)
    refine qv_aald (pc := 44) g (by decide) ht1 (fun _ _ => ⟨_, rfl⟩) dX3_giveBack_44 (fun z8 => ?_)
    have h2 : qv_is _ T 6 2 (qv_rf T t1 v7.toNatClampNeg) := ht1.to _ (by decide) (qv_inb_lt z8) rfl
    refine qv_aload_n (pc := 45) g dX3_giveBack_45 rfl rfl ?_
    have h3 : qv_is _ T 36 8 (qv_rf T t 0) := ht.to 0 (by decide) (by decide) rfl
    refine qv_getr (pc := 46) g fw_RX3_11 ht (by decide) (by decide) rfl dX3_giveBack_46 ?_
    refine qv_aload_n (pc := 49) g dX3_giveBack_49 rfl rfl ?_
    refine qv_gets (pc := 50) g fw_RX3_21 ht (by decide) (by decide) rfl dX3_giveBack_50 (fun v9 => ?_)
    refine qv_aald (pc := 53) g (by decide) h3 (fun _ _ => ⟨_, rfl⟩) dX3_giveBack_53 (fun z10 => ?_)
    have h4 : qv_is _ T 6 2 (qv_rf T (qv_rf T t 0) v9.toNatClampNeg) := h3.to _ (by decide) (qv_inb_lt z10) rfl
    refine qv_aV (qv_cv (pc := 54) g (c_X6_makeCopy (gl G) X d T _ _ M5 h2 h4) (qv_R hRm (by omega) (by decide)) ⟨Nat.zero_le _, Nat.zero_le _⟩ mw_X6_makeCopy lk_RX3_29 im_X6_makeCopy se_X6_makeCopy (by decide) rfl h2 pd_X6_makeCopy rfl (Nat.le_of_ble_eq_true rfl) dX3_giveBack_54) (fun M11 => ?_)
    exact qv_vret (pc := 57) g hr rfl dX3_giveBack_57
  · exact qv_vret (pc := 7) g hr rfl dX3_giveBack_7

set_option maxHeartbeats 4000000 in
set_option maxRecDepth 100000 in
theorem c_X9_undo (l : Launch) (X : qv_X) (d : Nat) (T : List qv_Ent) (t : Nat) (M : qv_Mem) {nt : Nat} (ht : qv_is (nt + 4) T 9 14 t) : qv_Ok l X yX9_undo cX9_undo 1 (some .int) (d + 2) T M [.ref (X.2.2.2 + t)] qv_eIM (f_X9_undo T t M) := by
  refine qv_mk (lv := [(0, .ref (X.2.2.2 + t))]) (by decide) (Nat.le_of_ble_eq_true rfl) rfl (fun G hG hRm g hr => ?_)
  have g : qv_ok G X cX9_undo RX9 1 := g
  unfold f_X9_undo
  refine qv_aload_n (pc := 0) g dX9_undo_0 rfl rfl ?_
  have h1 : qv_is _ T 3 4 (qv_rf T t 3) := ht.to 3 (by decide) (by decide) rfl
  refine qv_getr (pc := 1) g fw_RX9_28 ht (by decide) (by decide) rfl dX9_undo_1 ?_
  refine qv_gets (pc := 4) g fw_RX9_240 h1 (by decide) (by decide) rfl dX9_undo_4 (fun v1 => ?_)
  refine qv_if_ne (pc := 7) (tgt := 13) g dX9_undo_7 (by decide) ?_ ?_
  · refine qv_aload_n (pc := 13) g dX9_undo_13 rfl rfl ?_
    refine qv_getr (pc := 14) g fw_RX9_28 ht (by decide) (by decide) rfl dX9_undo_14 ?_
    refine qv_aload_n (pc := 17) g dX9_undo_17 rfl rfl ?_
    have h2 : qv_is _ T 0 3 (qv_rf T t 0) := ht.to 0 (by decide) (by decide) rfl
    refine qv_getr (pc := 18) g fw_RX9_12 ht (by decide) (by decide) rfl dX9_undo_18 ?_
    have h3 : qv_is _ T 36 3 (qv_rf T (qv_rf T t 0) 1) := h2.to 1 (by decide) (by decide) rfl
    refine qv_getr (pc := 21) g fw_RX9_197 h2 (by decide) (by decide) rfl dX9_undo_21 ?_
    refine qv_aV (qv_cv (pc := 24) g (c_X3_giveBack (gl G) X d T _ _ M h1 h3) (qv_R hRm (by omega) (by decide)) ⟨Nat.zero_le _, Nat.zero_le _⟩ mw_X3_giveBack lk_RX9_241 im_X3_giveBack se_X3_giveBack (by decide) rfl h1 pd_X3_giveBack rfl (Nat.le_of_ble_eq_true rfl) dX9_undo_24) (fun M2 => ?_)
    refine qv_aload_n (pc := 27) g dX9_undo_27 rfl rfl ?_
    refine qv_getr (pc := 28) g fw_RX9_28 ht (by decide) (by decide) rfl dX9_undo_28 ?_
    refine qv_gets (pc := 31) g fw_RX9_240 h1 (by decide) (by decide) rfl dX9_undo_31 (fun v3 => ?_)
    exact qv_iret (pc := 34) g hr rfl dX9_undo_34
  · refine qv_bipush (v := (-5)) (pc := 10) g dX9_undo_10 (by decide) ?_
    exact qv_iret (pc := 12) g hr rfl dX9_undo_12

set_option maxHeartbeats 4000000 in
set_option maxRecDepth 100000 in
theorem c_X8_add (l : Launch) (X : qv_X) (d : Nat) (T : List qv_Ent) (t : Nat) (p1 : Int32) (M : qv_Mem) {nt : Nat} (ht : qv_is (nt + 1) T 8 2 t) : qv_Ok l X yX8_add cX8_add 2 (some .boolean) (d) T M [.ref (X.2.2.2 + t), .int p1] qv_eIM (f_X8_add T t p1 M) := by
  refine qv_mk (lv := [(0, .ref (X.2.2.2 + t)), (1, .int p1)]) (by decide) (Nat.le_of_ble_eq_true rfl) rfl (fun G hG hRm g hr => ?_)
  have g : qv_ok G X cX8_add RX8 2 := g
  unfold f_X8_add
  refine qv_aload_n (pc := 0) g dX8_add_0 rfl rfl ?_
  refine qv_gets (pc := 1) g fw_RX8_15 ht (by decide) (by decide) rfl dX8_add_1 (fun v1 => ?_)
  refine qv_bipush (v := 80) (pc := 4) g dX8_add_4 (by decide) ?_
  refine qv_icmp_lt (pc := 6) (tgt := 11) g dX8_add_6 (by decide) ?_ ?_
  · refine qv_aload_n (pc := 11) g dX8_add_11 rfl rfl ?_
    have h1 : qv_is _ T 20 80 (qv_rf T t 0) := ht.to 0 (by decide) (by decide) rfl
    refine qv_getr (pc := 12) g fw_RX8_9 ht (by decide) (by decide) rfl dX8_add_12 ?_
    refine qv_aload_n (pc := 15) g dX8_add_15 rfl rfl ?_
    refine qv_gets (pc := 16) g fw_RX8_15 ht (by decide) (by decide) rfl dX8_add_16 (fun v2 => ?_)
    refine qv_iload_n (pc := 19) g dX8_add_19 rfl rfl ?_
    refine qv_iast (pc := 20) g h1 dX8_add_20 (fun M3 => ?_)
    refine qv_aload_n (pc := 21) g dX8_add_21 rfl rfl ?_
    refine qv_dup (pc := 22) g dX8_add_22 rfl ?_
    refine qv_gets (pc := 23) g fw_RX8_15 ht (by decide) (by decide) rfl dX8_add_23 (fun v4 => ?_)
    refine qv_iconst (v := 1) (pc := 26) g dX8_add_26 (by decide) ?_
    refine qv_iadd (pc := 27) g dX8_add_27 ?_
    refine qv_puti (pc := 28) g pw_RX8_15 ht (by decide) (by decide) rfl dX8_add_28 (fun M5 => ?_)
    refine qv_iconst (v := 1) (pc := 31) g dX8_add_31 (by decide) ?_
    exact qv_zret (pc := 32) g hr rfl rfl dX8_add_32
  · refine qv_iconst (v := 0) (pc := 9) g dX8_add_9 (by decide) ?_
    exact qv_zret (pc := 10) g hr rfl rfl dX8_add_10

set_option maxHeartbeats 4000000 in
set_option maxRecDepth 100000 in
theorem c_X9_feed (l : Launch) (X : qv_X) (d : Nat) (T : List qv_Ent) (t : Nat) (p1 : Int32) (M : qv_Mem) {nt : Nat} (ht : qv_is (nt + 4) T 9 14 t) : qv_Ok l X yX9_feed cX9_feed 2 (some .int) (d + 1) T M [.ref (X.2.2.2 + t), .int p1] qv_eIM (f_X9_feed T t p1 M) := by
  refine qv_mk (lv := [(0, .ref (X.2.2.2 + t)), (1, .int p1)]) (by decide) (Nat.le_of_ble_eq_true rfl) rfl (fun G hG hRm g hr => ?_)
  have g : qv_ok G X cX9_feed RX9 2 := g
  unfold f_X9_feed
  refine qv_iload_n (pc := 0) g dX9_feed_0 rfl rfl ?_
  refine qv_bipush (v := 32) (pc := 1) g dX9_feed_1 (by decide) ?_
  refine qv_icmp_lt (pc := 3) (tgt := 12) g dX9_feed_3 (by decide) ?_ ?_
  · refine qv_iconst (v := (-1)) (pc := 12) g dX9_feed_12 (by decide) ?_
    exact qv_iret (pc := 13) g hr rfl dX9_feed_13
  · refine qv_iload_n (pc := 6) g dX9_feed_6 rfl rfl ?_
    refine qv_bipush (v := 126) (pc := 7) g dX9_feed_7 (by decide) ?_
    refine qv_icmp_le (pc := 9) (tgt := 14) g dX9_feed_9 (by decide) ?_ ?_
    · refine qv_aload_n (pc := 14) g dX9_feed_14 rfl rfl ?_
      have h1 : qv_is _ T 8 2 (qv_rf T t 4) := ht.to 4 (by decide) (by decide) rfl
      refine qv_getr (pc := 15) g fw_RX9_35 ht (by decide) (by decide) rfl dX9_feed_15 ?_
      refine qv_iload_n (pc := 18) g dX9_feed_18 rfl rfl ?_
      refine qv_aIM (qv_cv (pc := 19) g (c_X8_add (gl G) X d T _ _ M h1) (qv_R hRm (by omega) (by decide)) ⟨Nat.zero_le _, Nat.zero_le _⟩ mw_X8_add lk_RX9_245 im_X8_add se_X8_add (by decide) rfl h1 pd_X8_add rfl (Nat.le_of_ble_eq_true rfl) dX9_feed_19) (fun v1 M2 => ?_)
      refine qv_if_eq (pc := 22) (tgt := 35) g dX9_feed_22 (by decide) ?_ ?_
      · refine qv_bipush (v := (-3)) (pc := 35) g dX9_feed_35 (by decide) ?_
        exact qv_iret (pc := 37) g hr rfl dX9_feed_37
      · refine qv_aload_n (pc := 25) g dX9_feed_25 rfl rfl ?_
        refine qv_getr (pc := 26) g fw_RX9_35 ht (by decide) (by decide) rfl dX9_feed_26 ?_
        refine qv_gets (pc := 29) g fw_RX9_246 h1 (by decide) (by decide) rfl dX9_feed_29 (fun v3 => ?_)
        refine qv_goto (pc := 32) (tgt := 37) g dX9_feed_32 (by decide) ?_
        exact qv_iret (pc := 37) g hr rfl dX9_feed_37
    · refine qv_iconst (v := (-1)) (pc := 12) g dX9_feed_12 (by decide) ?_
      exact qv_iret (pc := 13) g hr rfl dX9_feed_13

set_option maxHeartbeats 4000000 in
set_option maxRecDepth 100000 in
theorem c_X9_wipe (l : Launch) (X : qv_X) (d : Nat) (T : List qv_Ent) (t : Nat) (M : qv_Mem) {nt : Nat} (ht : qv_is (nt + 4) T 9 14 t) : qv_Ok l X yX9_wipe cX9_wipe 2 (some .int) (d) T M [.ref (X.2.2.2 + t)] qv_eIM (f_X9_wipe T t M) := by
  refine qv_mk (lv := [(0, .ref (X.2.2.2 + t))]) (by decide) (Nat.le_of_ble_eq_true rfl) rfl (fun G hG hRm g hr => ?_)
  have g : qv_ok G X cX9_wipe RX9 2 := g
  unfold f_X9_wipe
  refine qv_aload_n (pc := 0) g dX9_wipe_0 rfl rfl ?_
  have h1 : qv_is _ T 8 2 (qv_rf T t 4) := ht.to 4 (by decide) (by decide) rfl
  refine qv_getr (pc := 1) g fw_RX9_35 ht (by decide) (by decide) rfl dX9_wipe_1 ?_
  refine qv_gets (pc := 4) g fw_RX9_246 h1 (by decide) (by decide) rfl dX9_wipe_4 (fun v1 => ?_)
  refine qv_istore_n (pc := 7) (lv1 := [(1, .int v1), (0, .ref (X.2.2.2 + t))]) g dX9_wipe_7 rfl (by decide) rfl ?_
  refine qv_aload_n (pc := 8) g dX9_wipe_8 rfl rfl ?_
  refine qv_getr (pc := 9) g fw_RX9_35 ht (by decide) (by decide) rfl dX9_wipe_9 ?_
  refine qv_iconst (v := 0) (pc := 12) g dX9_wipe_12 (by decide) ?_
  refine qv_puti (pc := 13) g pw_RX9_246 h1 (by decide) (by decide) rfl dX9_wipe_13 (fun M2 => ?_)
  refine qv_iload_n (pc := 16) g dX9_wipe_16 rfl rfl ?_
  exact qv_iret (pc := 17) g hr rfl dX9_wipe_17

set_option maxHeartbeats 4000000 in
set_option maxRecDepth 100000 in
theorem c_X9_gateOfLetter (l : Launch) (X : qv_X) (d : Nat) (T : List qv_Ent) (p0 : Int32) (M : qv_Mem)  : qv_Ok l X yX9_gateOfLetter cX9_gateOfLetter 1 (some .int) (d) T M [.int p0] (qv_eI M) (f_X9_gateOfLetter p0) := by
  refine qv_mk (lv := [(0, .int p0)]) (by decide) (Nat.le_of_ble_eq_true rfl) rfl (fun G hG hRm g hr => ?_)
  have g : qv_ok G X cX9_gateOfLetter RX9 1 := g
  unfold f_X9_gateOfLetter
  refine qv_iload_n (pc := 0) g dX9_gateOfLetter_0 rfl rfl ?_
  refine qv_ite _ (fun e1 => ?_) (fun n2 => ?_)
  · refine qv_tabI (pc := 1) (tgt := 92) g dX9_gateOfLetter_1 (by rw [e1]; decide) (by rw [e1]; decide) (by rw [e1]; rfl) (by decide) ?_
    refine qv_iconst (v := 0) (pc := 92) g dX9_gateOfLetter_92 (by decide) ?_
    exact qv_iret (pc := 93) g hr rfl dX9_gateOfLetter_93
  refine qv_ite _ (fun e3 => ?_) (fun n4 => ?_)
  · refine qv_tabI (pc := 1) (tgt := 96) g dX9_gateOfLetter_1 (by rw [e3]; decide) (by rw [e3]; decide) (by rw [e3]; rfl) (by decide) ?_
    refine qv_iconst (v := 2) (pc := 96) g dX9_gateOfLetter_96 (by decide) ?_
    exact qv_iret (pc := 97) g hr rfl dX9_gateOfLetter_97
  refine qv_ite _ (fun e5 => ?_) (fun n6 => ?_)
  · refine qv_tabI (pc := 1) (tgt := 94) g dX9_gateOfLetter_1 (by rw [e5]; decide) (by rw [e5]; decide) (by rw [e5]; rfl) (by decide) ?_
    refine qv_iconst (v := 1) (pc := 94) g dX9_gateOfLetter_94 (by decide) ?_
    exact qv_iret (pc := 95) g hr rfl dX9_gateOfLetter_95
  refine qv_ite _ (fun e7 => ?_) (fun n8 => ?_)
  · refine qv_tabI (pc := 1) (tgt := 104) g dX9_gateOfLetter_1 (by rw [e7]; decide) (by rw [e7]; decide) (by rw [e7]; rfl) (by decide) ?_
    refine qv_bipush (v := 6) (pc := 104) g dX9_gateOfLetter_104 (by decide) ?_
    exact qv_iret (pc := 106) g hr rfl dX9_gateOfLetter_106
  refine qv_ite _ (fun e9 => ?_) (fun n10 => ?_)
  · refine qv_tabI (pc := 1) (tgt := 102) g dX9_gateOfLetter_1 (by rw [e9]; decide) (by rw [e9]; decide) (by rw [e9]; rfl) (by decide) ?_
    refine qv_iconst (v := 5) (pc := 102) g dX9_gateOfLetter_102 (by decide) ?_
    exact qv_iret (pc := 103) g hr rfl dX9_gateOfLetter_103
  refine qv_ite _ (fun e11 => ?_) (fun n12 => ?_)
  · refine qv_tabI (pc := 1) (tgt := 98) g dX9_gateOfLetter_1 (by rw [e11]; decide) (by rw [e11]; decide) (by rw [e11]; rfl) (by decide) ?_
    refine qv_iconst (v := 3) (pc := 98) g dX9_gateOfLetter_98 (by decide) ?_
    exact qv_iret (pc := 99) g hr rfl dX9_gateOfLetter_99
  refine qv_ite _ (fun e13 => ?_) (fun n14 => ?_)
  · refine qv_tabI (pc := 1) (tgt := 100) g dX9_gateOfLetter_1 (by rw [e13]; decide) (by rw [e13]; decide) (by rw [e13]; rfl) (by decide) ?_
    refine qv_iconst (v := 4) (pc := 100) g dX9_gateOfLetter_100 (by decide) ?_
    exact qv_iret (pc := 101) g hr rfl dX9_gateOfLetter_101
  refine qv_tabD (pc := 1) (tgt := 107) (cl := [72, 83, 84, 85, 87, 88, 90]) (n := 19) g dX9_gateOfLetter_1 (by decide) (by decide) (by simp [n2, n4, n6, n8, n10, n12, n14]) (by decide) ?_
  refine qv_bipush (v := (-2)) (pc := 107) g dX9_gateOfLetter_107 (by decide) ?_
  exact qv_iret (pc := 109) g hr rfl dX9_gateOfLetter_109

set_option maxHeartbeats 4000000 in
set_option maxRecDepth 100000 in
theorem c_X8_at (l : Launch) (X : qv_X) (d : Nat) (T : List qv_Ent) (t : Nat) (p1 : Int32) (M : qv_Mem) {nt : Nat} (ht : qv_is (nt + 1) T 8 2 t) : qv_Ok l X yX8_at cX8_at 2 (some .int) (d + 1) T M [.ref (X.2.2.2 + t), .int p1] (qv_eI M) (f_X8_at T t p1 M) := by
  refine qv_mk (lv := [(0, .ref (X.2.2.2 + t)), (1, .int p1)]) (by decide) (Nat.le_of_ble_eq_true rfl) rfl (fun G hG hRm g hr => ?_)
  have g : qv_ok G X cX8_at RX8 2 := g
  unfold f_X8_at
  refine qv_iload_n (pc := 0) g dX8_at_0 rfl rfl ?_
  refine qv_aload_n (pc := 1) g dX8_at_1 rfl rfl ?_
  refine qv_gets (pc := 2) g fw_RX8_15 ht (by decide) (by decide) rfl dX8_at_2 (fun v1 => ?_)
  refine qv_aI rfl (qv_cn (pc := 5) g (c_X9_isBelow (gl G) X d T _ _ M) (qv_R hRm (by omega) (by decide)) ⟨Nat.zero_le _, Nat.zero_le _⟩ mw_X9_isBelow ln_RX8_19 st_X9_isBelow pd_X9_isBelow rfl (Nat.le_of_ble_eq_true rfl) dX8_at_5) (fun v2 => ?_)
  refine qv_if_eq (pc := 8) (tgt := 20) g dX8_at_8 (by decide) ?_ ?_
  · refine qv_bipush (v := (-2)) (pc := 20) g dX8_at_20 (by decide) ?_
    exact qv_iret (pc := 22) g hr rfl dX8_at_22
  · refine qv_aload_n (pc := 11) g dX8_at_11 rfl rfl ?_
    have h1 : qv_is _ T 20 80 (qv_rf T t 0) := ht.to 0 (by decide) (by decide) rfl
    refine qv_getr (pc := 12) g fw_RX8_9 ht (by decide) (by decide) rfl dX8_at_12 ?_
    refine qv_iload_n (pc := 15) g dX8_at_15 rfl rfl ?_
    refine qv_iald (pc := 16) g h1 dX8_at_16 (fun v3 => ?_)
    refine qv_goto (pc := 17) (tgt := 22) g dX8_at_17 (by decide) ?_
    exact qv_iret (pc := 22) g hr rfl dX8_at_22

set_option maxHeartbeats 4000000 in
set_option maxRecDepth 100000 in
theorem c_X8_figureAt (l : Launch) (X : qv_X) (d : Nat) (T : List qv_Ent) (t : Nat) (p1 : Int32) (M : qv_Mem) {nt : Nat} (ht : qv_is (nt + 1) T 8 2 t) : qv_Ok l X yX8_figureAt cX8_figureAt 3 (some .int) (d + 2) T M [.ref (X.2.2.2 + t), .int p1] (qv_eI M) (f_X8_figureAt T t p1 M) := by
  refine qv_mk (lv := [(0, .ref (X.2.2.2 + t)), (1, .int p1)]) (by decide) (Nat.le_of_ble_eq_true rfl) rfl (fun G hG hRm g hr => ?_)
  have g : qv_ok G X cX8_figureAt RX8 3 := g
  unfold f_X8_figureAt
  refine qv_aload_n (pc := 0) g dX8_figureAt_0 rfl rfl ?_
  refine qv_iload_n (pc := 1) g dX8_figureAt_1 rfl rfl ?_
  refine qv_aI rfl (qv_cv (pc := 2) g (c_X8_at (gl G) X d T _ _ M ht) (qv_R hRm (by omega) (by decide)) ⟨Nat.zero_le _, Nat.zero_le _⟩ mw_X8_at lk_RX8_23 im_X8_at se_X8_at (by decide) rfl ht pd_X8_at rfl (Nat.le_of_ble_eq_true rfl) dX8_figureAt_2) (fun v1 => ?_)
  refine qv_istore_n (pc := 5) (lv1 := [(2, .int v1), (0, .ref (X.2.2.2 + t)), (1, .int p1)]) g dX8_figureAt_5 rfl (by decide) rfl ?_
  refine qv_iload_n (pc := 6) g dX8_figureAt_6 rfl rfl ?_
  refine qv_bipush (v := 48) (pc := 7) g dX8_figureAt_7 (by decide) ?_
  refine qv_icmp_lt (pc := 9) (tgt := 25) g dX8_figureAt_9 (by decide) ?_ ?_
  · refine qv_bipush (v := (-2)) (pc := 25) g dX8_figureAt_25 (by decide) ?_
    exact qv_iret (pc := 27) g hr rfl dX8_figureAt_27
  · refine qv_iload_n (pc := 12) g dX8_figureAt_12 rfl rfl ?_
    refine qv_bipush (v := 57) (pc := 13) g dX8_figureAt_13 (by decide) ?_
    refine qv_icmp_gt (pc := 15) (tgt := 25) g dX8_figureAt_15 (by decide) ?_ ?_
    · refine qv_bipush (v := (-2)) (pc := 25) g dX8_figureAt_25 (by decide) ?_
      exact qv_iret (pc := 27) g hr rfl dX8_figureAt_27
    · refine qv_iload_n (pc := 18) g dX8_figureAt_18 rfl rfl ?_
      refine qv_bipush (v := 48) (pc := 19) g dX8_figureAt_19 (by decide) ?_
      refine qv_isub (pc := 21) g dX8_figureAt_21 ?_
      refine qv_goto (pc := 22) (tgt := 27) g dX8_figureAt_22 (by decide) ?_
      exact qv_iret (pc := 27) g hr rfl dX8_figureAt_27

set_option maxHeartbeats 4000000 in
set_option maxRecDepth 100000 in
theorem c_X8_findFault (l : Launch) (X : qv_X) (d : Nat) (T : List qv_Ent) (t : Nat) (M : qv_Mem) {nt : Nat} (ht : qv_is (nt + 1) T 8 2 t) : qv_Ok l X yX8_findFault cX8_findFault 5 (some .int) (d + 3) T M [.ref (X.2.2.2 + t)] (qv_eI M) (f_X8_findFault T t M) := by
  refine qv_mk (lv := [(0, .ref (X.2.2.2 + t))]) (by decide) (Nat.le_of_ble_eq_true rfl) rfl (fun G hG hRm g hr => ?_)
  have g : qv_ok G X cX8_findFault RX8 5 := g
  unfold f_X8_findFault
  refine qv_iconst (v := 0) (pc := 0) g dX8_findFault_0 (by decide) ?_
  refine qv_istore_n (pc := 1) (lv1 := [(1, .int 0), (0, .ref (X.2.2.2 + t))]) g dX8_findFault_1 rfl (by decide) rfl ?_
  refine qv_iconst (v := 1) (pc := 2) g dX8_findFault_2 (by decide) ?_
  refine qv_istore_n (pc := 3) (lv1 := [(2, .int 1), (1, .int 0), (0, .ref (X.2.2.2 + t))]) g dX8_findFault_3 rfl (by decide) rfl ?_
  refine qv_iconst (v := 0) (pc := 4) g dX8_findFault_4 (by decide) ?_
  refine qv_istore_n (pc := 5) (lv1 := [(3, .int 0), (2, .int 1), (1, .int 0), (0, .ref (X.2.2.2 + t))]) g dX8_findFault_5 rfl (by decide) rfl ?_
  refine qv_join (fun (k3 : Int32 → Int32 → Option Int32) => ∀ (v1 : Int32) (v2 : Int32), qv_V G X 5 (qv_QM G X T (qv_eI M) (0, 0)) T (0, 0) 116 [(0, .ref (X.2.2.2 + t)), (1, .int v1), (2, .int v2)] [] M (k3 v1 v2)) (fun v1 v2 => ?_) (fun k3 qk3 => ?_)
  · refine qv_iload_n (pc := 116) g dX8_findFault_116 rfl rfl ?_
    refine qv_join (fun (k4 : Unit → Option Int32) => ∀ (_ : Unit), qv_V G X 5 (qv_QM G X T (qv_eI M) (0, 0)) T (0, 0) 124 [(0, .ref (X.2.2.2 + t))] [] M (k4 ())) (fun _ => ?_) (fun k4 qk4 => ?_)
    · refine qv_aload_n (pc := 124) g dX8_findFault_124 rfl rfl ?_
      refine qv_gets (pc := 125) g fw_RX8_15 ht (by decide) (by decide) rfl dX8_findFault_125 (fun v5 => ?_)
      refine qv_goto (pc := 128) (tgt := 133) g dX8_findFault_128 (by decide) ?_
      exact qv_iret (pc := 133) g hr rfl dX8_findFault_133
    refine qv_if_ne (pc := 117) (tgt := 124) g dX8_findFault_117 (by decide) ?_ ?_
    · refine qv_lv [0] rfl ?_
      exact qk4 ()
    · refine qv_iload_n (pc := 120) g dX8_findFault_120 rfl rfl ?_
      refine qv_if_le (pc := 121) (tgt := 131) g dX8_findFault_121 (by decide) ?_ ?_
      · refine qv_bipush (v := (-2)) (pc := 131) g dX8_findFault_131 (by decide) ?_
        exact qv_iret (pc := 133) g hr rfl dX8_findFault_133
      · refine qv_lv [0] rfl ?_
        exact qk4 ()
  refine qv_lv [3, 2, 1, 0] rfl ?_
  exact qv_L3 (Vh := fun (v6 : Int32) (v7 : Int32) (v8 : Int32) o => qv_V G X 5 (qv_QM G X T (qv_eI M) (0, 0)) T (0, 0) 6 [(0, .ref (X.2.2.2 + t)), (1, .int v6), (2, .int v7), (3, .int v8)] [] M o) (fun _ _ _ => qv_none) (fun r9 qr9 v6 v7 v8 => by
    unfold b_X8_findFault_6
    refine qv_iload_n (pc := 6) g dX8_findFault_6 rfl rfl ?_
    refine qv_aload_n (pc := 7) g dX8_findFault_7 rfl rfl ?_
    refine qv_gets (pc := 8) g fw_RX8_15 ht (by decide) (by decide) rfl dX8_findFault_8 (fun v10 => ?_)
    refine qv_icmp_ge (pc := 11) (tgt := 116) g dX8_findFault_11 (by decide) ?_ ?_
    · refine qv_lv [0, 1, 2] rfl ?_
      exact qk3 _ _
    · refine qv_aload_n (pc := 14) g dX8_findFault_14 rfl rfl ?_
      have h1 : qv_is _ T 20 80 (qv_rf T t 0) := ht.to 0 (by decide) (by decide) rfl
      refine qv_getr (pc := 15) g fw_RX8_9 ht (by decide) (by decide) rfl dX8_findFault_15 ?_
      refine qv_iload_n (pc := 18) g dX8_findFault_18 rfl rfl ?_
      refine qv_iald (pc := 19) g h1 dX8_findFault_19 (fun v11 => ?_)
      refine qv_istore (pc := 20) (lv1 := [(4, .int v11), (0, .ref (X.2.2.2 + t)), (1, .int v6), (2, .int v7), (3, .int v8)]) g dX8_findFault_20 (by decide) rfl ?_
      refine qv_iload (pc := 22) g dX8_findFault_22 rfl ?_
      refine qv_aI rfl (qv_cn (pc := 24) g (c_X9_gateOfLetter (gl G) X (d + 2) T _ M) (qv_R hRm (by omega) (by decide)) ⟨Nat.zero_le _, Nat.zero_le _⟩ mw_X9_gateOfLetter ln_RX8_27 st_X9_gateOfLetter pd_X9_gateOfLetter rfl (Nat.le_of_ble_eq_true rfl) dX8_findFault_24) (fun v12 => ?_)
      refine qv_join (fun (k15 : Int32 → Int32 → Option Int32) => ∀ (v13 : Int32) (v14 : Int32), qv_V G X 5 (qv_QM G X T (qv_eI M) (0, 0)) T (0, 0) 110 [(0, .ref (X.2.2.2 + t)), (1, .int v13), (2, .int v14), (3, .int v8)] [] M (k15 v13 v14)) (fun v13 v14 => ?_) (fun k15 qk15 => ?_)
      · refine qv_iinc (pc := 110) (v := (v8 + 1)) (lv1 := [(3, .int (v8 + 1)), (0, .ref (X.2.2.2 + t)), (1, .int v13), (2, .int v14)]) g dX8_findFault_110 rfl rfl (by decide) rfl ?_
        refine qv_goto (pc := 113) (tgt := 6) g dX8_findFault_113 (by decide) ?_
        refine qv_lv [1, 2, 3, 0] rfl ?_
        exact qr9 _ _ _
      refine qv_if_lt (pc := 27) (tgt := 35) g dX8_findFault_27 (by decide) ?_ ?_
      · refine qv_iload (pc := 35) g dX8_findFault_35 rfl ?_
        refine qv_bipush (v := 126) (pc := 37) g dX8_findFault_37 (by decide) ?_
        refine qv_icmp_ne (pc := 39) (tgt := 47) g dX8_findFault_39 (by decide) ?_ ?_
        · refine qv_iload (pc := 47) g dX8_findFault_47 rfl ?_
          refine qv_bipush (v := 40) (pc := 49) g dX8_findFault_49 (by decide) ?_
          refine qv_join (fun (k16 : Unit → Option Int32) => ∀ (_ : Unit), qv_V G X 5 (qv_QM G X T (qv_eI M) (0, 0)) T (0, 0) 67 [(0, .ref (X.2.2.2 + t)), (1, .int v6), (2, .int v7), (3, .int v8), (4, .int v11)] [] M (k16 ())) (fun _ => ?_) (fun k16 qk16 => ?_)
          · refine qv_iload (pc := 67) g dX8_findFault_67 rfl ?_
            refine qv_bipush (v := 41) (pc := 69) g dX8_findFault_69 (by decide) ?_
            refine qv_join (fun (k17 : Unit → Option Int32) => ∀ (_ : Unit), qv_V G X 5 (qv_QM G X T (qv_eI M) (0, 0)) T (0, 0) 88 [(0, .ref (X.2.2.2 + t)), (1, .int v6), (2, .int v7), (3, .int v8)] [] M (k17 ())) (fun _ => ?_) (fun k17 qk17 => ?_)
            · refine qv_aload_n (pc := 88) g dX8_findFault_88 rfl rfl ?_
              refine qv_iload_n (pc := 89) g dX8_findFault_89 rfl rfl ?_
              refine qv_aI rfl (qv_cv (pc := 90) g (c_X8_figureAt (gl G) X d T _ _ M ht) (qv_R hRm (by omega) (by decide)) ⟨Nat.zero_le _, Nat.zero_le _⟩ mw_X8_figureAt lk_RX8_30 im_X8_figureAt se_X8_figureAt (by decide) rfl ht pd_X8_figureAt rfl (Nat.le_of_ble_eq_true rfl) dX8_findFault_90) (fun v18 => ?_)
              refine qv_if_lt (pc := 93) (tgt := 108) g dX8_findFault_93 (by decide) ?_ ?_
              · refine qv_iload_n (pc := 108) g dX8_findFault_108 rfl rfl ?_
                exact qv_iret (pc := 109) g hr rfl dX8_findFault_109
              · refine qv_aload_n (pc := 96) g dX8_findFault_96 rfl rfl ?_
                refine qv_iload_n (pc := 97) g dX8_findFault_97 rfl rfl ?_
                refine qv_iconst (v := 1) (pc := 98) g dX8_findFault_98 (by decide) ?_
                refine qv_isub (pc := 99) g dX8_findFault_99 ?_
                refine qv_aI rfl (qv_cv (pc := 100) g (c_X8_at (gl G) X (d + 1) T _ _ M ht) (qv_R hRm (by omega) (by decide)) ⟨Nat.zero_le _, Nat.zero_le _⟩ mw_X8_at lk_RX8_23 im_X8_at se_X8_at (by decide) rfl ht pd_X8_at rfl (Nat.le_of_ble_eq_true rfl) dX8_findFault_100) (fun v19 => ?_)
                refine qv_bipush (v := 41) (pc := 103) g dX8_findFault_103 (by decide) ?_
                refine qv_icmp_eq (pc := 105) (tgt := 110) g dX8_findFault_105 (by decide) ?_ ?_
                · exact qk15 _ _
                · refine qv_iload_n (pc := 108) g dX8_findFault_108 rfl rfl ?_
                  exact qv_iret (pc := 109) g hr rfl dX8_findFault_109
            refine qv_icmp_ne (pc := 71) (tgt := 88) g dX8_findFault_71 (by decide) ?_ ?_
            · refine qv_lv [0, 1, 2, 3] rfl ?_
              exact qk17 ()
            · refine qv_iload_n (pc := 74) g dX8_findFault_74 rfl rfl ?_
              refine qv_if_le (pc := 75) (tgt := 88) g dX8_findFault_75 (by decide) ?_ ?_
              · refine qv_lv [0, 1, 2, 3] rfl ?_
                exact qk17 ()
              · refine qv_iload_n (pc := 78) g dX8_findFault_78 rfl rfl ?_
                refine qv_if_ne (pc := 79) (tgt := 88) g dX8_findFault_79 (by decide) ?_ ?_
                · refine qv_lv [0, 1, 2, 3] rfl ?_
                  exact qk17 ()
                · refine qv_iinc (pc := 82) (v := (v6 + (-1))) (lv1 := [(1, .int (v6 + (-1))), (0, .ref (X.2.2.2 + t)), (2, .int v7), (3, .int v8), (4, .int v11)]) g dX8_findFault_82 rfl rfl (by decide) rfl ?_
                  refine qv_goto (pc := 85) (tgt := 110) g dX8_findFault_85 (by decide) ?_
                  refine qv_lv [1, 0, 2, 3] rfl ?_
                  exact qk15 _ _
          refine qv_icmp_ne (pc := 51) (tgt := 67) g dX8_findFault_51 (by decide) ?_ ?_
          · refine qv_lv [1, 2, 3, 4, 0] rfl ?_
            exact qk16 ()
          · refine qv_iload_n (pc := 54) g dX8_findFault_54 rfl rfl ?_
            refine qv_iconst (v := 4) (pc := 55) g dX8_findFault_55 (by decide) ?_
            refine qv_icmp_ge (pc := 56) (tgt := 67) g dX8_findFault_56 (by decide) ?_ ?_
            · refine qv_lv [1, 2, 3, 4, 0] rfl ?_
              exact qk16 ()
            · refine qv_iinc (pc := 59) (v := (v6 + 1)) (lv1 := [(1, .int (v6 + 1)), (4, .int v11), (0, .ref (X.2.2.2 + t)), (2, .int v7), (3, .int v8)]) g dX8_findFault_59 rfl rfl (by decide) rfl ?_
              refine qv_iconst (v := 1) (pc := 62) g dX8_findFault_62 (by decide) ?_
              refine qv_istore_n (pc := 63) (lv1 := [(2, .int 1), (1, .int (v6 + 1)), (4, .int v11), (0, .ref (X.2.2.2 + t)), (3, .int v8)]) g dX8_findFault_63 rfl (by decide) rfl ?_
              refine qv_goto (pc := 64) (tgt := 110) g dX8_findFault_64 (by decide) ?_
              refine qv_lv [3, 1, 0, 4] rfl ?_
              exact qk15 _ _
        · refine qv_iconst (v := 1) (pc := 42) g dX8_findFault_42 (by decide) ?_
          refine qv_istore_n (pc := 43) (lv1 := [(2, .int 1), (4, .int v11), (0, .ref (X.2.2.2 + t)), (1, .int v6), (3, .int v8)]) g dX8_findFault_43 rfl (by decide) rfl ?_
          refine qv_goto (pc := 44) (tgt := 110) g dX8_findFault_44 (by decide) ?_
          refine qv_lv [2, 3, 0, 4] rfl ?_
          exact qk15 _ _
      · refine qv_iconst (v := 0) (pc := 30) g dX8_findFault_30 (by decide) ?_
        refine qv_istore_n (pc := 31) (lv1 := [(2, .int 0), (4, .int v11), (0, .ref (X.2.2.2 + t)), (1, .int v6), (3, .int v8)]) g dX8_findFault_31 rfl (by decide) rfl ?_
        refine qv_goto (pc := 32) (tgt := 110) g dX8_findFault_32 (by decide) ?_
        refine qv_lv [2, 3, 0, 4] rfl ?_
        exact qk15 _ _) _ _ _ _

set_option maxHeartbeats 4000000 in
set_option maxRecDepth 100000 in
theorem c_X5_isHeld (l : Launch) (X : qv_X) (d : Nat) (T : List qv_Ent) (t : Nat) (p1 : Int32) (p2 : Int32) (M : qv_Mem) {nt : Nat} (ht : qv_is (nt + 1) T 5 7 t) : qv_Ok l X yX5_isHeld cX5_isHeld 3 (some .boolean) (d) T M [.ref (X.2.2.2 + t), .int p1, .int p2] (qv_eI M) (f_X5_isHeld T t p1 p2 M) := by
  refine qv_mk (lv := [(0, .ref (X.2.2.2 + t)), (1, .int p1), (2, .int p2)]) (by decide) (Nat.le_of_ble_eq_true rfl) rfl (fun G hG hRm g hr => ?_)
  have g : qv_ok G X cX5_isHeld RX5 3 := g
  unfold f_X5_isHeld
  refine qv_iload_n (pc := 0) g dX5_isHeld_0 rfl rfl ?_
  refine qv_aload_n (pc := 1) g dX5_isHeld_1 rfl rfl ?_
  have h1 : qv_is _ T 20 5 (qv_rf T t 2) := ht.to 2 (by decide) (by decide) rfl
  refine qv_getr (pc := 2) g fw_RX5_18 ht (by decide) (by decide) rfl dX5_isHeld_2 ?_
  refine qv_aload_n (pc := 5) g dX5_isHeld_5 rfl rfl ?_
  refine qv_gets (pc := 6) g fw_RX5_28 ht (by decide) (by decide) rfl dX5_isHeld_6 (fun v1 => ?_)
  refine qv_iald (pc := 9) g h1 dX5_isHeld_9 (fun v2 => ?_)
  refine qv_isub (pc := 10) g dX5_isHeld_10 ?_
  refine qv_iload_n (pc := 11) g dX5_isHeld_11 rfl rfl ?_
  refine qv_iadd (pc := 12) g dX5_isHeld_12 ?_
  refine qv_bipush (v := 60) (pc := 13) g dX5_isHeld_13 (by decide) ?_
  refine qv_icmp_gt (pc := 15) (tgt := 22) g dX5_isHeld_15 (by decide) ?_ ?_
  · refine qv_iconst (v := 0) (pc := 22) g dX5_isHeld_22 (by decide) ?_
    exact qv_zret (pc := 23) g hr rfl rfl dX5_isHeld_23
  · refine qv_iconst (v := 1) (pc := 18) g dX5_isHeld_18 (by decide) ?_
    refine qv_goto (pc := 19) (tgt := 23) g dX5_isHeld_19 (by decide) ?_
    exact qv_zret (pc := 23) g hr rfl rfl dX5_isHeld_23

set_option maxHeartbeats 4000000 in
set_option maxRecDepth 100000 in
theorem c_X5_widthOf (l : Launch) (X : qv_X) (d : Nat) (T : List qv_Ent) (p0 : Int32) (M : qv_Mem)  : qv_Ok l X yX5_widthOf cX5_widthOf 1 (some .int) (d) T M [.int p0] (qv_eI M) (f_X5_widthOf p0) := by
  refine qv_mk (lv := [(0, .int p0)]) (by decide) (Nat.le_of_ble_eq_true rfl) rfl (fun G hG hRm g hr => ?_)
  have g : qv_ok G X cX5_widthOf RX5 1 := g
  unfold f_X5_widthOf
  refine qv_iload_n (pc := 0) g dX5_widthOf_0 rfl rfl ?_
  refine qv_iconst (v := 2) (pc := 1) g dX5_widthOf_1 (by decide) ?_
  refine qv_icmp_ne (pc := 2) (tgt := 7) g dX5_widthOf_2 (by decide) ?_ ?_
  · refine qv_iload_n (pc := 7) g dX5_widthOf_7 rfl rfl ?_
    refine qv_iconst (v := 5) (pc := 8) g dX5_widthOf_8 (by decide) ?_
    refine qv_icmp_ne (pc := 9) (tgt := 17) g dX5_widthOf_9 (by decide) ?_ ?_
    · refine qv_iconst (v := 1) (pc := 17) g dX5_widthOf_17 (by decide) ?_
      exact qv_iret (pc := 18) g hr rfl dX5_widthOf_18
    · refine qv_bipush (v := 7) (pc := 12) g dX5_widthOf_12 (by decide) ?_
      refine qv_goto (pc := 14) (tgt := 18) g dX5_widthOf_14 (by decide) ?_
      exact qv_iret (pc := 18) g hr rfl dX5_widthOf_18
  · refine qv_iconst (v := 2) (pc := 5) g dX5_widthOf_5 (by decide) ?_
    exact qv_iret (pc := 6) g hr rfl dX5_widthOf_6

set_option maxHeartbeats 4000000 in
set_option maxRecDepth 100000 in
theorem c_X5_turnedGate (l : Launch) (X : qv_X) (d : Nat) (T : List qv_Ent) (p0 : Int32) (p1 : Int32) (M : qv_Mem)  : qv_Ok l X yX5_turnedGate cX5_turnedGate 2 (some .int) (d) T M [.int p0, .int p1] (qv_eI M) (f_X5_turnedGate p0 p1) := by
  refine qv_mk (lv := [(0, .int p0), (1, .int p1)]) (by decide) (Nat.le_of_ble_eq_true rfl) rfl (fun G hG hRm g hr => ?_)
  have g : qv_ok G X cX5_turnedGate RX5 2 := g
  unfold f_X5_turnedGate
  refine qv_iload_n (pc := 0) g dX5_turnedGate_0 rfl rfl ?_
  refine qv_ite _ (fun e1 => ?_) (fun n2 => ?_)
  · refine qv_look (pc := 1) (tgt := 36) g dX5_turnedGate_1 (by decide) (by rw [e1]) (by decide) ?_
    refine qv_bipush (v := 6) (pc := 36) g dX5_turnedGate_36 (by decide) ?_
    exact qv_iret (pc := 38) g hr rfl dX5_turnedGate_38
  refine qv_ite _ (fun e3 => ?_) (fun n4 => ?_)
  · refine qv_look (pc := 1) (tgt := 41) g dX5_turnedGate_1 (by decide) (by rw [e3]) (by decide) ?_
    refine qv_iload_n (pc := 41) g dX5_turnedGate_41 rfl rfl ?_
    refine qv_if_ne (pc := 42) (tgt := 49) g dX5_turnedGate_42 (by decide) ?_ ?_
    · refine qv_iconst (v := 4) (pc := 49) g dX5_turnedGate_49 (by decide) ?_
      exact qv_iret (pc := 50) g hr rfl dX5_turnedGate_50
    · refine qv_iconst (v := 2) (pc := 45) g dX5_turnedGate_45 (by decide) ?_
      refine qv_goto (pc := 46) (tgt := 50) g dX5_turnedGate_46 (by decide) ?_
      exact qv_iret (pc := 50) g hr rfl dX5_turnedGate_50
  refine qv_ite _ (fun e5 => ?_) (fun n6 => ?_)
  · refine qv_look (pc := 1) (tgt := 39) g dX5_turnedGate_1 (by decide) (by rw [e5]) (by decide) ?_
    refine qv_iconst (v := 1) (pc := 39) g dX5_turnedGate_39 (by decide) ?_
    exact qv_iret (pc := 40) g hr rfl dX5_turnedGate_40
  refine qv_lookD (pc := 1) (tgt := 51) (cl := [1, 2, 6]) g dX5_turnedGate_1 (by decide) (by decide) (by simp [n2, n4, n6]) (by decide) ?_
  refine qv_iload_n (pc := 51) g dX5_turnedGate_51 rfl rfl ?_
  exact qv_iret (pc := 52) g hr rfl dX5_turnedGate_52

set_option maxHeartbeats 4000000 in
set_option maxRecDepth 100000 in
theorem c_X5_turnOnce (l : Launch) (X : qv_X) (d : Nat) (T : List qv_Ent) (t : Nat) (p1 : Int32) (M : qv_Mem) {nt : Nat} (ht : qv_is (nt + 1) T 5 7 t) : qv_Ok l X yX5_turnOnce cX5_turnOnce 7 (some .boolean) (d + 1) T M [.ref (X.2.2.2 + t), .int p1] qv_eIM (f_X5_turnOnce T t p1 M) := by
  refine qv_mk (lv := [(0, .ref (X.2.2.2 + t)), (1, .int p1)]) (by decide) (Nat.le_of_ble_eq_true rfl) rfl (fun G hG hRm g hr => ?_)
  have g : qv_ok G X cX5_turnOnce RX5 7 := g
  unfold f_X5_turnOnce
  refine qv_aload_n (pc := 0) g dX5_turnOnce_0 rfl rfl ?_
  refine qv_gets (pc := 1) g fw_RX5_24 ht (by decide) (by decide) rfl dX5_turnOnce_1 (fun v1 => ?_)
  refine qv_iload_n (pc := 4) g dX5_turnOnce_4 rfl rfl ?_
  refine qv_isub (pc := 5) g dX5_turnOnce_5 ?_
  refine qv_istore_n (pc := 6) (lv1 := [(2, .int (v1 - p1)), (0, .ref (X.2.2.2 + t)), (1, .int p1)]) g dX5_turnOnce_6 rfl (by decide) rfl ?_
  refine qv_iload_n (pc := 7) g dX5_turnOnce_7 rfl rfl ?_
  refine qv_bipush (v := 60) (pc := 8) g dX5_turnOnce_8 (by decide) ?_
  refine qv_icmp_le (pc := 10) (tgt := 15) g dX5_turnOnce_10 (by decide) ?_ ?_
  · refine qv_iconst (v := 0) (pc := 15) g dX5_turnOnce_15 (by decide) ?_
    refine qv_istore_n (pc := 16) (lv1 := [(3, .int 0), (2, .int (v1 - p1)), (0, .ref (X.2.2.2 + t)), (1, .int p1)]) g dX5_turnOnce_16 rfl (by decide) rfl ?_
    refine qv_iconst (v := 0) (pc := 17) g dX5_turnOnce_17 (by decide) ?_
    refine qv_istore (pc := 18) (lv1 := [(4, .int 0), (3, .int 0), (2, .int (v1 - p1)), (0, .ref (X.2.2.2 + t)), (1, .int p1)]) g dX5_turnOnce_18 (by decide) rfl ?_
    refine qv_join (fun (k4 : Int32 → qv_Mem → Option (Int32 × qv_Mem)) => ∀ (v2 : Int32) (M3 : qv_Mem), qv_V G X 7 (qv_QM G X T qv_eIM (0, 0)) T (0, 0) 61 [(0, .ref (X.2.2.2 + t)), (1, .int p1), (2, .int (v1 - p1)), (3, .int v2)] [] M3 (k4 v2 M3)) (fun v2 M3 => ?_) (fun k4 qk4 => ?_)
    · refine qv_aload_n (pc := 61) g dX5_turnOnce_61 rfl rfl ?_
      refine qv_iload_n (pc := 62) g dX5_turnOnce_62 rfl rfl ?_
      refine qv_iload_n (pc := 63) g dX5_turnOnce_63 rfl rfl ?_
      refine qv_aI rfl (qv_cv (pc := 64) g (c_X5_isHeld (gl G) X d T _ _ _ M3 ht) (qv_R hRm (by omega) (by decide)) ⟨Nat.zero_le _, Nat.zero_le _⟩ mw_X5_isHeld lk_RX5_68 im_X5_isHeld se_X5_isHeld (by decide) rfl ht pd_X5_isHeld rfl (Nat.le_of_ble_eq_true rfl) dX5_turnOnce_64) (fun v5 => ?_)
      refine qv_if_ne (pc := 67) (tgt := 72) g dX5_turnOnce_67 (by decide) ?_ ?_
      · refine qv_aload_n (pc := 72) g dX5_turnOnce_72 rfl rfl ?_
        refine qv_iload_n (pc := 73) g dX5_turnOnce_73 rfl rfl ?_
        refine qv_puti (pc := 74) g pw_RX5_24 ht (by decide) (by decide) rfl dX5_turnOnce_74 (fun M6 => ?_)
        refine qv_iload_n (pc := 77) g dX5_turnOnce_77 rfl rfl ?_
        refine qv_iconst (v := 1) (pc := 78) g dX5_turnOnce_78 (by decide) ?_
        refine qv_isub (pc := 79) g dX5_turnOnce_79 ?_
        refine qv_istore (pc := 80) (lv1 := [(4, .int ((v1 - p1) - 1)), (0, .ref (X.2.2.2 + t)), (1, .int p1), (2, .int (v1 - p1)), (3, .int v2)]) g dX5_turnOnce_80 (by decide) rfl ?_
        refine qv_join (fun (k8 : qv_Mem → Option (Int32 × qv_Mem)) => ∀ (M7 : qv_Mem), qv_V G X 7 (qv_QM G X T qv_eIM (0, 0)) T (0, 0) 164 [] [] M7 (k8 M7)) (fun M7 => ?_) (fun k8 qk8 => ?_)
        · refine qv_iconst (v := 1) (pc := 164) g dX5_turnOnce_164 (by decide) ?_
          exact qv_zret (pc := 165) g hr rfl rfl dX5_turnOnce_165
        refine qv_lv [1, 0] rfl ?_
        exact qv_L2 (Vh := fun (v9 : Int32) (M10 : qv_Mem) o => qv_V G X 7 (qv_QM G X T qv_eIM (0, 0)) T (0, 0) 82 [(0, .ref (X.2.2.2 + t)), (4, .int v9)] [] M10 o) (fun _ _ => qv_none) (fun r11 qr11 v9 M10 => by
          unfold b_X5_turnOnce_82
          refine qv_iload (pc := 82) g dX5_turnOnce_82 rfl ?_
          refine qv_if_lt (pc := 84) (tgt := 164) g dX5_turnOnce_84 (by decide) ?_ ?_
          · refine qv_lv [] rfl ?_
            exact qk8 _
          · refine qv_aload_n (pc := 87) g dX5_turnOnce_87 rfl rfl ?_
            have h1 : qv_is _ T 20 60 (qv_rf T t 1) := ht.to 1 (by decide) (by decide) rfl
            refine qv_getr (pc := 88) g fw_RX5_15 ht (by decide) (by decide) rfl dX5_turnOnce_88 ?_
            refine qv_iload (pc := 91) g dX5_turnOnce_91 rfl ?_
            refine qv_iald (pc := 93) g h1 dX5_turnOnce_93 (fun v12 => ?_)
            refine qv_aI rfl (qv_cs (pc := 94) g (c_X5_widthOf (gl G) X d T _ M10) (qv_R hRm (by omega) (by decide)) ⟨Nat.zero_le _, Nat.zero_le _⟩ mw_X5_widthOf lk_RX5_78 st_X5_widthOf pd_X5_widthOf rfl (Nat.le_of_ble_eq_true rfl) dX5_turnOnce_94) (fun v13 => ?_)
            refine qv_istore (pc := 97) (lv1 := [(5, .int v13), (0, .ref (X.2.2.2 + t)), (4, .int v9)]) g dX5_turnOnce_97 (by decide) rfl ?_
            refine qv_iconst (v := 0) (pc := 99) g dX5_turnOnce_99 (by decide) ?_
            refine qv_istore (pc := 100) (lv1 := [(6, .int 0), (5, .int v13), (0, .ref (X.2.2.2 + t)), (4, .int v9)]) g dX5_turnOnce_100 (by decide) rfl ?_
            refine qv_join (fun (k15 : qv_Mem → Option (Int32 × qv_Mem)) => ∀ (M14 : qv_Mem), qv_V G X 7 (qv_QM G X T qv_eIM (0, 0)) T (0, 0) 158 [(0, .ref (X.2.2.2 + t)), (4, .int v9)] [] M14 (k15 M14)) (fun M14 => ?_) (fun k15 qk15 => ?_)
            · refine qv_iinc (pc := 158) (v := (v9 + (-1))) (lv1 := [(4, .int (v9 + (-1))), (0, .ref (X.2.2.2 + t))]) g dX5_turnOnce_158 rfl rfl (by decide) rfl ?_
              refine qv_goto (pc := 161) (tgt := 82) g dX5_turnOnce_161 (by decide) ?_
              refine qv_lv [1, 0] rfl ?_
              exact qr11 _ _
            refine qv_lv [2, 3, 1, 0] rfl ?_
            exact qv_L2 (Vh := fun (v16 : Int32) (M17 : qv_Mem) o => qv_V G X 7 (qv_QM G X T qv_eIM (0, 0)) T (0, 0) 102 [(0, .ref (X.2.2.2 + t)), (4, .int v9), (5, .int v13), (6, .int v16)] [] M17 o) (fun _ _ => qv_none) (fun r18 qr18 v16 M17 => by
              unfold b_X5_turnOnce_102
              refine qv_iload (pc := 102) g dX5_turnOnce_102 rfl ?_
              refine qv_iload (pc := 104) g dX5_turnOnce_104 rfl ?_
              refine qv_icmp_ge (pc := 106) (tgt := 158) g dX5_turnOnce_106 (by decide) ?_ ?_
              · refine qv_lv [0, 1] rfl ?_
                exact qk15 _
              · refine qv_aload_n (pc := 109) g dX5_turnOnce_109 rfl rfl ?_
                refine qv_gets (pc := 110) g fw_RX5_24 ht (by decide) (by decide) rfl dX5_turnOnce_110 (fun v19 => ?_)
                refine qv_aload_n (pc := 113) g dX5_turnOnce_113 rfl rfl ?_
                have h2 : qv_is _ T 20 300 (qv_rf T t 0) := ht.to 0 (by decide) (by decide) rfl
                refine qv_getr (pc := 114) g fw_RX5_9 ht (by decide) (by decide) rfl dX5_turnOnce_114 ?_
                refine qv_alen (pc := 117) (v := 300) g (by decide) h2 (by decide) dX5_turnOnce_117 ?_
                refine qv_icmp_ge (pc := 118) (tgt := 158) g dX5_turnOnce_118 (by decide) ?_ ?_
                · refine qv_lv [0, 1] rfl ?_
                  exact qk15 _
                · refine qv_aload_n (pc := 121) g dX5_turnOnce_121 rfl rfl ?_
                  refine qv_getr (pc := 122) g fw_RX5_9 ht (by decide) (by decide) rfl dX5_turnOnce_122 ?_
                  refine qv_aload_n (pc := 125) g dX5_turnOnce_125 rfl rfl ?_
                  refine qv_gets (pc := 126) g fw_RX5_24 ht (by decide) (by decide) rfl dX5_turnOnce_126 (fun v20 => ?_)
                  refine qv_aload_n (pc := 129) g dX5_turnOnce_129 rfl rfl ?_
                  refine qv_getr (pc := 130) g fw_RX5_15 ht (by decide) (by decide) rfl dX5_turnOnce_130 ?_
                  refine qv_iload (pc := 133) g dX5_turnOnce_133 rfl ?_
                  refine qv_iald (pc := 135) g h1 dX5_turnOnce_135 (fun v21 => ?_)
                  refine qv_iload (pc := 136) g dX5_turnOnce_136 rfl ?_
                  refine qv_aI rfl (qv_cs (pc := 138) g (c_X5_turnedGate (gl G) X d T _ _ M17) (qv_R hRm (by omega) (by decide)) ⟨Nat.zero_le _, Nat.zero_le _⟩ mw_X5_turnedGate lk_RX5_81 st_X5_turnedGate pd_X5_turnedGate rfl (Nat.le_of_ble_eq_true rfl) dX5_turnOnce_138) (fun v22 => ?_)
                  refine qv_iast (pc := 141) g h2 dX5_turnOnce_141 (fun M23 => ?_)
                  refine qv_aload_n (pc := 142) g dX5_turnOnce_142 rfl rfl ?_
                  refine qv_dup (pc := 143) g dX5_turnOnce_143 rfl ?_
                  refine qv_gets (pc := 144) g fw_RX5_24 ht (by decide) (by decide) rfl dX5_turnOnce_144 (fun v24 => ?_)
                  refine qv_iconst (v := 1) (pc := 147) g dX5_turnOnce_147 (by decide) ?_
                  refine qv_iadd (pc := 148) g dX5_turnOnce_148 ?_
                  refine qv_puti (pc := 149) g pw_RX5_24 ht (by decide) (by decide) rfl dX5_turnOnce_149 (fun M25 => ?_)
                  refine qv_iinc (pc := 152) (v := (v16 + 1)) (lv1 := [(6, .int (v16 + 1)), (0, .ref (X.2.2.2 + t)), (4, .int v9), (5, .int v13)]) g dX5_turnOnce_152 rfl rfl (by decide) rfl ?_
                  refine qv_goto (pc := 155) (tgt := 102) g dX5_turnOnce_155 (by decide) ?_
                  refine qv_lv [1, 2, 3, 0] rfl ?_
                  exact qr18 _ _) _ _ _) _ _ _
      · refine qv_iconst (v := 0) (pc := 70) g dX5_turnOnce_70 (by decide) ?_
        exact qv_zret (pc := 71) g hr rfl rfl dX5_turnOnce_71
    refine qv_lv [3, 4, 2, 1, 0] rfl ?_
    exact qv_L3 (Vh := fun (v26 : Int32) (v27 : Int32) (M28 : qv_Mem) o => qv_V G X 7 (qv_QM G X T qv_eIM (0, 0)) T (0, 0) 20 [(0, .ref (X.2.2.2 + t)), (1, .int p1), (2, .int (v1 - p1)), (3, .int v26), (4, .int v27)] [] M28 o) (fun _ _ _ => qv_none) (fun r29 qr29 v26 v27 M28 => by
      unfold b_X5_turnOnce_20
      refine qv_iload (pc := 20) g dX5_turnOnce_20 rfl ?_
      refine qv_iload_n (pc := 22) g dX5_turnOnce_22 rfl rfl ?_
      refine qv_icmp_ge (pc := 23) (tgt := 61) g dX5_turnOnce_23 (by decide) ?_ ?_
      · refine qv_lv [0, 1, 2, 3] rfl ?_
        exact qk4 _ _
      · refine qv_aload_n (pc := 26) g dX5_turnOnce_26 rfl rfl ?_
        have h3 : qv_is _ T 20 60 (qv_rf T t 1) := ht.to 1 (by decide) (by decide) rfl
        refine qv_getr (pc := 27) g fw_RX5_15 ht (by decide) (by decide) rfl dX5_turnOnce_27 ?_
        refine qv_iload (pc := 30) g dX5_turnOnce_30 rfl ?_
        refine qv_aload_n (pc := 32) g dX5_turnOnce_32 rfl rfl ?_
        have h4 : qv_is _ T 20 300 (qv_rf T t 0) := ht.to 0 (by decide) (by decide) rfl
        refine qv_getr (pc := 33) g fw_RX5_9 ht (by decide) (by decide) rfl dX5_turnOnce_33 ?_
        refine qv_iload_n (pc := 36) g dX5_turnOnce_36 rfl rfl ?_
        refine qv_iload (pc := 37) g dX5_turnOnce_37 rfl ?_
        refine qv_iadd (pc := 39) g dX5_turnOnce_39 ?_
        refine qv_iald (pc := 40) g h4 dX5_turnOnce_40 (fun v30 => ?_)
        refine qv_iast (pc := 41) g h3 dX5_turnOnce_41 (fun M31 => ?_)
        refine qv_iload_n (pc := 42) g dX5_turnOnce_42 rfl rfl ?_
        refine qv_aload_n (pc := 43) g dX5_turnOnce_43 rfl rfl ?_
        refine qv_getr (pc := 44) g fw_RX5_15 ht (by decide) (by decide) rfl dX5_turnOnce_44 ?_
        refine qv_iload (pc := 47) g dX5_turnOnce_47 rfl ?_
        refine qv_iald (pc := 49) g h3 dX5_turnOnce_49 (fun v32 => ?_)
        refine qv_aI rfl (qv_cs (pc := 50) g (c_X5_widthOf (gl G) X d T _ M31) (qv_R hRm (by omega) (by decide)) ⟨Nat.zero_le _, Nat.zero_le _⟩ mw_X5_widthOf lk_RX5_78 st_X5_widthOf pd_X5_widthOf rfl (Nat.le_of_ble_eq_true rfl) dX5_turnOnce_50) (fun v33 => ?_)
        refine qv_iadd (pc := 53) g dX5_turnOnce_53 ?_
        refine qv_istore_n (pc := 54) (lv1 := [(3, .int (v26 + v33)), (0, .ref (X.2.2.2 + t)), (1, .int p1), (2, .int (v1 - p1)), (4, .int v27)]) g dX5_turnOnce_54 rfl (by decide) rfl ?_
        refine qv_iinc (pc := 55) (v := (v27 + 1)) (lv1 := [(4, .int (v27 + 1)), (3, .int (v26 + v33)), (0, .ref (X.2.2.2 + t)), (1, .int p1), (2, .int (v1 - p1))]) g dX5_turnOnce_55 rfl rfl (by decide) rfl ?_
        refine qv_goto (pc := 58) (tgt := 20) g dX5_turnOnce_58 (by decide) ?_
        refine qv_lv [2, 3, 4, 1, 0] rfl ?_
        exact qr29 _ _ _) _ _ _ _
  · refine qv_iconst (v := 0) (pc := 13) g dX5_turnOnce_13 (by decide) ?_
    exact qv_zret (pc := 14) g hr rfl rfl dX5_turnOnce_14

set_option maxHeartbeats 4000000 in
set_option maxRecDepth 100000 in
theorem c_X5_turnItem (l : Launch) (X : qv_X) (d : Nat) (T : List qv_Ent) (t : Nat) (p1 : Int32) (M : qv_Mem) {nt : Nat} (ht : qv_is (nt + 1) T 5 7 t) : qv_Ok l X yX5_turnItem cX5_turnItem 4 (some .boolean) (d + 2) T M [.ref (X.2.2.2 + t), .int p1] qv_eIM (f_X5_turnItem T t p1 M) := by
  refine qv_mk (lv := [(0, .ref (X.2.2.2 + t)), (1, .int p1)]) (by decide) (Nat.le_of_ble_eq_true rfl) rfl (fun G hG hRm g hr => ?_)
  have g : qv_ok G X cX5_turnItem RX5 4 := g
  unfold f_X5_turnItem
  refine qv_aload_n (pc := 0) g dX5_turnItem_0 rfl rfl ?_
  refine qv_gets (pc := 1) g fw_RX5_31 ht (by decide) (by decide) rfl dX5_turnItem_1 (fun v1 => ?_)
  refine qv_istore_n (pc := 4) (lv1 := [(2, .int v1), (0, .ref (X.2.2.2 + t)), (1, .int p1)]) g dX5_turnItem_4 rfl (by decide) rfl ?_
  refine qv_aload_n (pc := 5) g dX5_turnItem_5 rfl rfl ?_
  refine qv_iconst (v := 0) (pc := 6) g dX5_turnItem_6 (by decide) ?_
  refine qv_puti (pc := 7) g pw_RX5_31 ht (by decide) (by decide) rfl dX5_turnItem_7 (fun M2 => ?_)
  refine qv_iconst (v := 0) (pc := 10) g dX5_turnItem_10 (by decide) ?_
  refine qv_istore_n (pc := 11) (lv1 := [(3, .int 0), (2, .int v1), (0, .ref (X.2.2.2 + t)), (1, .int p1)]) g dX5_turnItem_11 rfl (by decide) rfl ?_
  refine qv_join (fun (k4 : qv_Mem → Option (Int32 × qv_Mem)) => ∀ (M3 : qv_Mem), qv_V G X 4 (qv_QM G X T qv_eIM (0, 0)) T (0, 0) 33 [] [] M3 (k4 M3)) (fun M3 => ?_) (fun k4 qk4 => ?_)
  · refine qv_iconst (v := 1) (pc := 33) g dX5_turnItem_33 (by decide) ?_
    exact qv_zret (pc := 34) g hr rfl rfl dX5_turnItem_34
  refine qv_lv [2, 3, 1, 0] rfl ?_
  exact qv_L2 (Vh := fun (v5 : Int32) (M6 : qv_Mem) o => qv_V G X 4 (qv_QM G X T qv_eIM (0, 0)) T (0, 0) 12 [(0, .ref (X.2.2.2 + t)), (1, .int p1), (2, .int v1), (3, .int v5)] [] M6 o) (fun _ _ => qv_none) (fun r7 qr7 v5 M6 => by
    unfold b_X5_turnItem_12
    refine qv_iload_n (pc := 12) g dX5_turnItem_12 rfl rfl ?_
    refine qv_iload_n (pc := 13) g dX5_turnItem_13 rfl rfl ?_
    refine qv_icmp_ge (pc := 14) (tgt := 33) g dX5_turnItem_14 (by decide) ?_ ?_
    · refine qv_lv [] rfl ?_
      exact qk4 _
    · refine qv_aload_n (pc := 17) g dX5_turnItem_17 rfl rfl ?_
      refine qv_iload_n (pc := 18) g dX5_turnItem_18 rfl rfl ?_
      refine qv_aIM (qv_cv (pc := 19) g (c_X5_turnOnce (gl G) X d T _ _ M6 ht) (qv_R hRm (by omega) (by decide)) ⟨Nat.zero_le _, Nat.zero_le _⟩ mw_X5_turnOnce lk_RX5_75 im_X5_turnOnce se_X5_turnOnce (by decide) rfl ht pd_X5_turnOnce rfl (Nat.le_of_ble_eq_true rfl) dX5_turnItem_19) (fun v8 M9 => ?_)
      refine qv_if_ne (pc := 22) (tgt := 27) g dX5_turnItem_22 (by decide) ?_ ?_
      · refine qv_iinc (pc := 27) (v := (v5 + 1)) (lv1 := [(3, .int (v5 + 1)), (0, .ref (X.2.2.2 + t)), (1, .int p1), (2, .int v1)]) g dX5_turnItem_27 rfl rfl (by decide) rfl ?_
        refine qv_goto (pc := 30) (tgt := 12) g dX5_turnItem_30 (by decide) ?_
        refine qv_lv [1, 2, 3, 0] rfl ?_
        exact qr7 _ _
      · refine qv_iconst (v := 0) (pc := 25) g dX5_turnItem_25 (by decide) ?_
        exact qv_zret (pc := 26) g hr rfl rfl dX5_turnItem_26) _ _ _

set_option maxHeartbeats 4000000 in
set_option maxRecDepth 100000 in
theorem c_X5_readGate (l : Launch) (X : qv_X) (d : Nat) (T : List qv_Ent) (t : Nat) (p1 : Int32) (M : qv_Mem) {nt : Nat} (ht : qv_is (nt + 1) T 5 7 t) : qv_Ok l X yX5_readGate cX5_readGate 3 (some .boolean) (d + 3) T M [.ref (X.2.2.2 + t), .int p1] qv_eIM (f_X5_readGate T t p1 M) := by
  refine qv_mk (lv := [(0, .ref (X.2.2.2 + t)), (1, .int p1)]) (by decide) (Nat.le_of_ble_eq_true rfl) rfl (fun G hG hRm g hr => ?_)
  have g : qv_ok G X cX5_readGate RX5 3 := g
  unfold f_X5_readGate
  refine qv_aload_n (pc := 0) g dX5_readGate_0 rfl rfl ?_
  refine qv_gets (pc := 1) g fw_RX5_24 ht (by decide) (by decide) rfl dX5_readGate_1 (fun v1 => ?_)
  refine qv_istore_n (pc := 4) (lv1 := [(2, .int v1), (0, .ref (X.2.2.2 + t)), (1, .int p1)]) g dX5_readGate_4 rfl (by decide) rfl ?_
  refine qv_aload_n (pc := 5) g dX5_readGate_5 rfl rfl ?_
  refine qv_iload_n (pc := 6) g dX5_readGate_6 rfl rfl ?_
  refine qv_iconst (v := 1) (pc := 7) g dX5_readGate_7 (by decide) ?_
  refine qv_aI rfl (qv_cv (pc := 8) g (c_X5_isHeld (gl G) X (d + 2) T _ _ _ M ht) (qv_R hRm (by omega) (by decide)) ⟨Nat.zero_le _, Nat.zero_le _⟩ mw_X5_isHeld lk_RX5_68 im_X5_isHeld se_X5_isHeld (by decide) rfl ht pd_X5_isHeld rfl (Nat.le_of_ble_eq_true rfl) dX5_readGate_8) (fun v2 => ?_)
  refine qv_if_ne (pc := 11) (tgt := 16) g dX5_readGate_11 (by decide) ?_ ?_
  · refine qv_aload_n (pc := 16) g dX5_readGate_16 rfl rfl ?_
    have h1 : qv_is _ T 20 300 (qv_rf T t 0) := ht.to 0 (by decide) (by decide) rfl
    refine qv_getr (pc := 17) g fw_RX5_9 ht (by decide) (by decide) rfl dX5_readGate_17 ?_
    refine qv_aload_n (pc := 20) g dX5_readGate_20 rfl rfl ?_
    refine qv_gets (pc := 21) g fw_RX5_24 ht (by decide) (by decide) rfl dX5_readGate_21 (fun v3 => ?_)
    refine qv_iload_n (pc := 24) g dX5_readGate_24 rfl rfl ?_
    refine qv_iast (pc := 25) g h1 dX5_readGate_25 (fun M4 => ?_)
    refine qv_aload_n (pc := 26) g dX5_readGate_26 rfl rfl ?_
    refine qv_dup (pc := 27) g dX5_readGate_27 rfl ?_
    refine qv_gets (pc := 28) g fw_RX5_24 ht (by decide) (by decide) rfl dX5_readGate_28 (fun v5 => ?_)
    refine qv_iconst (v := 1) (pc := 31) g dX5_readGate_31 (by decide) ?_
    refine qv_iadd (pc := 32) g dX5_readGate_32 ?_
    refine qv_puti (pc := 33) g pw_RX5_24 ht (by decide) (by decide) rfl dX5_readGate_33 (fun M6 => ?_)
    refine qv_aload_n (pc := 36) g dX5_readGate_36 rfl rfl ?_
    refine qv_iload_n (pc := 37) g dX5_readGate_37 rfl rfl ?_
    refine qv_aIM (qv_cv (pc := 38) g (c_X5_turnItem (gl G) X d T _ _ M6 ht) (qv_R hRm (by omega) (by decide)) ⟨Nat.zero_le _, Nat.zero_le _⟩ mw_X5_turnItem lk_RX5_72 im_X5_turnItem se_X5_turnItem (by decide) rfl ht pd_X5_turnItem rfl (Nat.le_of_ble_eq_true rfl) dX5_readGate_38) (fun v7 M8 => ?_)
    exact qv_zretg (pc := 41) g hr rfl dX5_readGate_41
  · refine qv_iconst (v := 0) (pc := 14) g dX5_readGate_14 (by decide) ?_
    exact qv_zret (pc := 15) g hr rfl rfl dX5_readGate_15

set_option maxHeartbeats 4000000 in
set_option maxRecDepth 100000 in
theorem c_X5_openGroup (l : Launch) (X : qv_X) (d : Nat) (T : List qv_Ent) (t : Nat) (M : qv_Mem) {nt : Nat} (ht : qv_is (nt + 1) T 5 7 t) : qv_Ok l X yX5_openGroup cX5_openGroup 1 (some .boolean) (d) T M [.ref (X.2.2.2 + t)] qv_eIM (f_X5_openGroup T t M) := by
  refine qv_mk (lv := [(0, .ref (X.2.2.2 + t))]) (by decide) (Nat.le_of_ble_eq_true rfl) rfl (fun G hG hRm g hr => ?_)
  have g : qv_ok G X cX5_openGroup RX5 1 := g
  unfold f_X5_openGroup
  refine qv_aload_n (pc := 0) g dX5_openGroup_0 rfl rfl ?_
  refine qv_gets (pc := 1) g fw_RX5_28 ht (by decide) (by decide) rfl dX5_openGroup_1 (fun v1 => ?_)
  refine qv_iconst (v := 4) (pc := 4) g dX5_openGroup_4 (by decide) ?_
  refine qv_icmp_lt (pc := 5) (tgt := 10) g dX5_openGroup_5 (by decide) ?_ ?_
  · refine qv_aload_n (pc := 10) g dX5_openGroup_10 rfl rfl ?_
    have h1 : qv_is _ T 20 5 (qv_rf T t 3) := ht.to 3 (by decide) (by decide) rfl
    refine qv_getr (pc := 11) g fw_RX5_21 ht (by decide) (by decide) rfl dX5_openGroup_11 ?_
    refine qv_aload_n (pc := 14) g dX5_openGroup_14 rfl rfl ?_
    refine qv_gets (pc := 15) g fw_RX5_28 ht (by decide) (by decide) rfl dX5_openGroup_15 (fun v2 => ?_)
    refine qv_aload_n (pc := 18) g dX5_openGroup_18 rfl rfl ?_
    refine qv_gets (pc := 19) g fw_RX5_31 ht (by decide) (by decide) rfl dX5_openGroup_19 (fun v3 => ?_)
    refine qv_iast (pc := 22) g h1 dX5_openGroup_22 (fun M4 => ?_)
    refine qv_aload_n (pc := 23) g dX5_openGroup_23 rfl rfl ?_
    refine qv_iconst (v := 0) (pc := 24) g dX5_openGroup_24 (by decide) ?_
    refine qv_puti (pc := 25) g pw_RX5_31 ht (by decide) (by decide) rfl dX5_openGroup_25 (fun M5 => ?_)
    refine qv_aload_n (pc := 28) g dX5_openGroup_28 rfl rfl ?_
    refine qv_dup (pc := 29) g dX5_openGroup_29 rfl ?_
    refine qv_gets (pc := 30) g fw_RX5_28 ht (by decide) (by decide) rfl dX5_openGroup_30 (fun v6 => ?_)
    refine qv_iconst (v := 1) (pc := 33) g dX5_openGroup_33 (by decide) ?_
    refine qv_iadd (pc := 34) g dX5_openGroup_34 ?_
    refine qv_puti (pc := 35) g pw_RX5_28 ht (by decide) (by decide) rfl dX5_openGroup_35 (fun M7 => ?_)
    refine qv_aload_n (pc := 38) g dX5_openGroup_38 rfl rfl ?_
    have h2 : qv_is _ T 20 5 (qv_rf T t 2) := ht.to 2 (by decide) (by decide) rfl
    refine qv_getr (pc := 39) g fw_RX5_18 ht (by decide) (by decide) rfl dX5_openGroup_39 ?_
    refine qv_aload_n (pc := 42) g dX5_openGroup_42 rfl rfl ?_
    refine qv_gets (pc := 43) g fw_RX5_28 ht (by decide) (by decide) rfl dX5_openGroup_43 (fun v8 => ?_)
    refine qv_aload_n (pc := 46) g dX5_openGroup_46 rfl rfl ?_
    refine qv_gets (pc := 47) g fw_RX5_24 ht (by decide) (by decide) rfl dX5_openGroup_47 (fun v9 => ?_)
    refine qv_iast (pc := 50) g h2 dX5_openGroup_50 (fun M10 => ?_)
    refine qv_iconst (v := 1) (pc := 51) g dX5_openGroup_51 (by decide) ?_
    exact qv_zret (pc := 52) g hr rfl rfl dX5_openGroup_52
  · refine qv_iconst (v := 0) (pc := 8) g dX5_openGroup_8 (by decide) ?_
    exact qv_zret (pc := 9) g hr rfl rfl dX5_openGroup_9

set_option maxHeartbeats 4000000 in
set_option maxRecDepth 100000 in
theorem c_X5_closeGroup (l : Launch) (X : qv_X) (d : Nat) (T : List qv_Ent) (t : Nat) (p1 : Int32) (M : qv_Mem) {nt : Nat} (ht : qv_is (nt + 1) T 5 7 t) : qv_Ok l X yX5_closeGroup cX5_closeGroup 5 (some .boolean) (d + 3) T M [.ref (X.2.2.2 + t), .int p1] qv_eIM (f_X5_closeGroup T t p1 M) := by
  refine qv_mk (lv := [(0, .ref (X.2.2.2 + t)), (1, .int p1)]) (by decide) (Nat.le_of_ble_eq_true rfl) rfl (fun G hG hRm g hr => ?_)
  have g : qv_ok G X cX5_closeGroup RX5 5 := g
  unfold f_X5_closeGroup
  refine qv_aload_n (pc := 0) g dX5_closeGroup_0 rfl rfl ?_
  refine qv_gets (pc := 1) g fw_RX5_28 ht (by decide) (by decide) rfl dX5_closeGroup_1 (fun v1 => ?_)
  refine qv_if_gt (pc := 4) (tgt := 9) g dX5_closeGroup_4 (by decide) ?_ ?_
  · refine qv_aload_n (pc := 9) g dX5_closeGroup_9 rfl rfl ?_
    have h1 : qv_is _ T 20 5 (qv_rf T t 2) := ht.to 2 (by decide) (by decide) rfl
    refine qv_getr (pc := 10) g fw_RX5_18 ht (by decide) (by decide) rfl dX5_closeGroup_10 ?_
    refine qv_aload_n (pc := 13) g dX5_closeGroup_13 rfl rfl ?_
    refine qv_gets (pc := 14) g fw_RX5_28 ht (by decide) (by decide) rfl dX5_closeGroup_14 (fun v2 => ?_)
    refine qv_iald (pc := 17) g h1 dX5_closeGroup_17 (fun v3 => ?_)
    refine qv_istore_n (pc := 18) (lv1 := [(2, .int v3), (0, .ref (X.2.2.2 + t)), (1, .int p1)]) g dX5_closeGroup_18 rfl (by decide) rfl ?_
    refine qv_aload_n (pc := 19) g dX5_closeGroup_19 rfl rfl ?_
    refine qv_gets (pc := 20) g fw_RX5_24 ht (by decide) (by decide) rfl dX5_closeGroup_20 (fun v4 => ?_)
    refine qv_iload_n (pc := 23) g dX5_closeGroup_23 rfl rfl ?_
    refine qv_isub (pc := 24) g dX5_closeGroup_24 ?_
    refine qv_istore_n (pc := 25) (lv1 := [(3, .int (v4 - v3)), (2, .int v3), (0, .ref (X.2.2.2 + t)), (1, .int p1)]) g dX5_closeGroup_25 rfl (by decide) rfl ?_
    refine qv_aload_n (pc := 26) g dX5_closeGroup_26 rfl rfl ?_
    refine qv_dup (pc := 27) g dX5_closeGroup_27 rfl ?_
    refine qv_gets (pc := 28) g fw_RX5_28 ht (by decide) (by decide) rfl dX5_closeGroup_28 (fun v5 => ?_)
    refine qv_iconst (v := 1) (pc := 31) g dX5_closeGroup_31 (by decide) ?_
    refine qv_isub (pc := 32) g dX5_closeGroup_32 ?_
    refine qv_puti (pc := 33) g pw_RX5_28 ht (by decide) (by decide) rfl dX5_closeGroup_33 (fun M6 => ?_)
    refine qv_aload_n (pc := 36) g dX5_closeGroup_36 rfl rfl ?_
    refine qv_aload_n (pc := 37) g dX5_closeGroup_37 rfl rfl ?_
    have h2 : qv_is _ T 20 5 (qv_rf T t 3) := ht.to 3 (by decide) (by decide) rfl
    refine qv_getr (pc := 38) g fw_RX5_21 ht (by decide) (by decide) rfl dX5_closeGroup_38 ?_
    refine qv_aload_n (pc := 41) g dX5_closeGroup_41 rfl rfl ?_
    refine qv_gets (pc := 42) g fw_RX5_28 ht (by decide) (by decide) rfl dX5_closeGroup_42 (fun v7 => ?_)
    refine qv_iald (pc := 45) g h2 dX5_closeGroup_45 (fun v8 => ?_)
    refine qv_puti (pc := 46) g pw_RX5_31 ht (by decide) (by decide) rfl dX5_closeGroup_46 (fun M9 => ?_)
    refine qv_aload_n (pc := 49) g dX5_closeGroup_49 rfl rfl ?_
    refine qv_iload_n (pc := 50) g dX5_closeGroup_50 rfl rfl ?_
    refine qv_iload_n (pc := 51) g dX5_closeGroup_51 rfl rfl ?_
    refine qv_iload_n (pc := 52) g dX5_closeGroup_52 rfl rfl ?_
    refine qv_imul (pc := 53) g dX5_closeGroup_53 ?_
    refine qv_aI rfl (qv_cv (pc := 54) g (c_X5_isHeld (gl G) X (d + 2) T _ _ _ M9 ht) (qv_R hRm (by omega) (by decide)) ⟨Nat.zero_le _, Nat.zero_le _⟩ mw_X5_isHeld lk_RX5_68 im_X5_isHeld se_X5_isHeld (by decide) rfl ht pd_X5_isHeld rfl (Nat.le_of_ble_eq_true rfl) dX5_closeGroup_54) (fun v10 => ?_)
    refine qv_if_ne (pc := 57) (tgt := 62) g dX5_closeGroup_57 (by decide) ?_ ?_
    · refine qv_aload_n (pc := 62) g dX5_closeGroup_62 rfl rfl ?_
      refine qv_iload_n (pc := 63) g dX5_closeGroup_63 rfl rfl ?_
      refine qv_iload_n (pc := 64) g dX5_closeGroup_64 rfl rfl ?_
      refine qv_iload_n (pc := 65) g dX5_closeGroup_65 rfl rfl ?_
      refine qv_imul (pc := 66) g dX5_closeGroup_66 ?_
      refine qv_iadd (pc := 67) g dX5_closeGroup_67 ?_
      refine qv_puti (pc := 68) g pw_RX5_24 ht (by decide) (by decide) rfl dX5_closeGroup_68 (fun M11 => ?_)
      refine qv_iload_n (pc := 71) g dX5_closeGroup_71 rfl rfl ?_
      refine qv_iload_n (pc := 72) g dX5_closeGroup_72 rfl rfl ?_
      refine qv_iadd (pc := 73) g dX5_closeGroup_73 ?_
      refine qv_istore (pc := 74) (lv1 := [(4, .int (v3 + (v4 - v3))), (3, .int (v4 - v3)), (2, .int v3), (0, .ref (X.2.2.2 + t)), (1, .int p1)]) g dX5_closeGroup_74 (by decide) rfl ?_
      refine qv_join (fun (k13 : qv_Mem → Option (Int32 × qv_Mem)) => ∀ (M12 : qv_Mem), qv_V G X 5 (qv_QM G X T qv_eIM (0, 0)) T (0, 0) 107 [(0, .ref (X.2.2.2 + t)), (2, .int v3)] [] M12 (k13 M12)) (fun M12 => ?_) (fun k13 qk13 => ?_)
      · refine qv_aload_n (pc := 107) g dX5_closeGroup_107 rfl rfl ?_
        refine qv_iload_n (pc := 108) g dX5_closeGroup_108 rfl rfl ?_
        refine qv_aIM (qv_cv (pc := 109) g (c_X5_turnItem (gl G) X d T _ _ M12 ht) (qv_R hRm (by omega) (by decide)) ⟨Nat.zero_le _, Nat.zero_le _⟩ mw_X5_turnItem lk_RX5_72 im_X5_turnItem se_X5_turnItem (by decide) rfl ht pd_X5_turnItem rfl (Nat.le_of_ble_eq_true rfl) dX5_closeGroup_109) (fun v14 M15 => ?_)
        exact qv_zretg (pc := 112) g hr rfl dX5_closeGroup_112
      refine qv_lv [3, 2, 1, 0] rfl ?_
      exact qv_L2 (Vh := fun (v16 : Int32) (M17 : qv_Mem) o => qv_V G X 5 (qv_QM G X T qv_eIM (0, 0)) T (0, 0) 76 [(0, .ref (X.2.2.2 + t)), (2, .int v3), (3, .int (v4 - v3)), (4, .int v16)] [] M17 o) (fun _ _ => qv_none) (fun r18 qr18 v16 M17 => by
        unfold b_X5_closeGroup_76
        refine qv_iload (pc := 76) g dX5_closeGroup_76 rfl ?_
        refine qv_aload_n (pc := 78) g dX5_closeGroup_78 rfl rfl ?_
        refine qv_gets (pc := 79) g fw_RX5_24 ht (by decide) (by decide) rfl dX5_closeGroup_79 (fun v19 => ?_)
        refine qv_icmp_ge (pc := 82) (tgt := 107) g dX5_closeGroup_82 (by decide) ?_ ?_
        · refine qv_lv [0, 1] rfl ?_
          exact qk13 _
        · refine qv_aload_n (pc := 85) g dX5_closeGroup_85 rfl rfl ?_
          have h3 : qv_is _ T 20 300 (qv_rf T t 0) := ht.to 0 (by decide) (by decide) rfl
          refine qv_getr (pc := 86) g fw_RX5_9 ht (by decide) (by decide) rfl dX5_closeGroup_86 ?_
          refine qv_iload (pc := 89) g dX5_closeGroup_89 rfl ?_
          refine qv_aload_n (pc := 91) g dX5_closeGroup_91 rfl rfl ?_
          refine qv_getr (pc := 92) g fw_RX5_9 ht (by decide) (by decide) rfl dX5_closeGroup_92 ?_
          refine qv_iload (pc := 95) g dX5_closeGroup_95 rfl ?_
          refine qv_iload_n (pc := 97) g dX5_closeGroup_97 rfl rfl ?_
          refine qv_isub (pc := 98) g dX5_closeGroup_98 ?_
          refine qv_iald (pc := 99) g h3 dX5_closeGroup_99 (fun v20 => ?_)
          refine qv_iast (pc := 100) g h3 dX5_closeGroup_100 (fun M21 => ?_)
          refine qv_iinc (pc := 101) (v := (v16 + 1)) (lv1 := [(4, .int (v16 + 1)), (0, .ref (X.2.2.2 + t)), (2, .int v3), (3, .int (v4 - v3))]) g dX5_closeGroup_101 rfl rfl (by decide) rfl ?_
          refine qv_goto (pc := 104) (tgt := 76) g dX5_closeGroup_104 (by decide) ?_
          refine qv_lv [1, 2, 3, 0] rfl ?_
          exact qr18 _ _) _ _ _
    · refine qv_iconst (v := 0) (pc := 60) g dX5_closeGroup_60 (by decide) ?_
      exact qv_zret (pc := 61) g hr rfl rfl dX5_closeGroup_61
  · refine qv_iconst (v := 0) (pc := 7) g dX5_closeGroup_7 (by decide) ?_
    exact qv_zret (pc := 8) g hr rfl rfl dX5_closeGroup_8

set_option maxHeartbeats 4000000 in
set_option maxRecDepth 100000 in
theorem c_X5_readByte (l : Launch) (X : qv_X) (d : Nat) (T : List qv_Ent) (t : Nat) (t1 : Nat) (p2 : Int32) (M : qv_Mem) {nt : Nat} (ht : qv_is (nt + 1) T 5 7 t) {nt1 : Nat} (ht1 : qv_is (nt1 + 1) T 8 2 t1) : qv_Ok l X yX5_readByte cX5_readByte 6 (some .boolean) (d + 4) T M [.ref (X.2.2.2 + t), .ref (X.2.2.2 + t1), .int p2] qv_eIM (f_X5_readByte T t t1 p2 M) := by
  refine qv_mk (lv := [(0, .ref (X.2.2.2 + t)), (1, .ref (X.2.2.2 + t1)), (2, .int p2)]) (by decide) (Nat.le_of_ble_eq_true rfl) rfl (fun G hG hRm g hr => ?_)
  have g : qv_ok G X cX5_readByte RX5 6 := g
  unfold f_X5_readByte
  refine qv_aload_n (pc := 0) g dX5_readByte_0 rfl rfl ?_
  refine qv_iload_n (pc := 1) g dX5_readByte_1 rfl rfl ?_
  refine qv_aI rfl (qv_cv (pc := 2) g (c_X8_at (gl G) X (d + 2) T _ _ M ht1) (qv_R hRm (by omega) (by decide)) ⟨Nat.zero_le _, Nat.zero_le _⟩ mw_X8_at lk_RX5_48 im_X8_at se_X8_at (by decide) rfl ht1 pd_X8_at rfl (Nat.le_of_ble_eq_true rfl) dX5_readByte_2) (fun v1 => ?_)
  refine qv_istore_n (pc := 5) (lv1 := [(3, .int v1), (0, .ref (X.2.2.2 + t)), (1, .ref (X.2.2.2 + t1)), (2, .int p2)]) g dX5_readByte_5 rfl (by decide) rfl ?_
  refine qv_iload_n (pc := 6) g dX5_readByte_6 rfl rfl ?_
  refine qv_aI rfl (qv_cn (pc := 7) g (c_X9_gateOfLetter (gl G) X (d + 3) T _ M) (qv_R hRm (by omega) (by decide)) ⟨Nat.zero_le _, Nat.zero_le _⟩ mw_X9_gateOfLetter ln_RX5_52 st_X9_gateOfLetter pd_X9_gateOfLetter rfl (Nat.le_of_ble_eq_true rfl) dX5_readByte_7) (fun v2 => ?_)
  refine qv_istore (pc := 10) (lv1 := [(4, .int v2), (3, .int v1), (0, .ref (X.2.2.2 + t)), (1, .ref (X.2.2.2 + t1)), (2, .int p2)]) g dX5_readByte_10 (by decide) rfl ?_
  refine qv_iload (pc := 12) g dX5_readByte_12 rfl ?_
  refine qv_if_lt (pc := 14) (tgt := 24) g dX5_readByte_14 (by decide) ?_ ?_
  · refine qv_iload_n (pc := 24) g dX5_readByte_24 rfl rfl ?_
    refine qv_bipush (v := 126) (pc := 25) g dX5_readByte_25 (by decide) ?_
    refine qv_icmp_ne (pc := 27) (tgt := 42) g dX5_readByte_27 (by decide) ?_ ?_
    · refine qv_iload_n (pc := 42) g dX5_readByte_42 rfl rfl ?_
      refine qv_bipush (v := 40) (pc := 43) g dX5_readByte_43 (by decide) ?_
      refine qv_icmp_ne (pc := 45) (tgt := 53) g dX5_readByte_45 (by decide) ?_ ?_
      · refine qv_iload_n (pc := 53) g dX5_readByte_53 rfl rfl ?_
        refine qv_bipush (v := 41) (pc := 54) g dX5_readByte_54 (by decide) ?_
        refine qv_icmp_ne (pc := 56) (tgt := 84) g dX5_readByte_56 (by decide) ?_ ?_
        · refine qv_iconst (v := 1) (pc := 84) g dX5_readByte_84 (by decide) ?_
          exact qv_zret (pc := 85) g hr rfl rfl dX5_readByte_85
        · refine qv_aload_n (pc := 59) g dX5_readByte_59 rfl rfl ?_
          refine qv_iload_n (pc := 60) g dX5_readByte_60 rfl rfl ?_
          refine qv_iconst (v := 1) (pc := 61) g dX5_readByte_61 (by decide) ?_
          refine qv_iadd (pc := 62) g dX5_readByte_62 ?_
          refine qv_aI rfl (qv_cv (pc := 63) g (c_X8_figureAt (gl G) X (d + 1) T _ _ M ht1) (qv_R hRm (by omega) (by decide)) ⟨Nat.zero_le _, Nat.zero_le _⟩ mw_X8_figureAt lk_RX5_62 im_X8_figureAt se_X8_figureAt (by decide) rfl ht1 pd_X8_figureAt rfl (Nat.le_of_ble_eq_true rfl) dX5_readByte_63) (fun v3 => ?_)
          refine qv_istore (pc := 66) (lv1 := [(5, .int v3), (4, .int v2), (3, .int v1), (0, .ref (X.2.2.2 + t)), (1, .ref (X.2.2.2 + t1)), (2, .int p2)]) g dX5_readByte_66 (by decide) rfl ?_
          refine qv_aload_n (pc := 68) g dX5_readByte_68 rfl rfl ?_
          refine qv_iload (pc := 69) g dX5_readByte_69 rfl ?_
          refine qv_join (fun (k5 : Int32 → Option (Int32 × qv_Mem)) => ∀ (v4 : Int32), qv_V G X 6 (qv_QM G X T qv_eIM (0, 0)) T (0, 0) 80 [] [.int v4, .ref (X.2.2.2 + t)] M (k5 v4)) (fun v4 => ?_) (fun k5 qk5 => ?_)
          · refine qv_aIM (qv_cv (pc := 80) g (c_X5_closeGroup (gl G) X d T _ _ M ht) (qv_R hRm (by omega) (by decide)) ⟨Nat.zero_le _, Nat.zero_le _⟩ mw_X5_closeGroup lk_RX5_65 im_X5_closeGroup se_X5_closeGroup (by decide) rfl ht pd_X5_closeGroup rfl (Nat.le_of_ble_eq_true rfl) dX5_readByte_80) (fun v6 M7 => ?_)
            exact qv_zretg (pc := 83) g hr rfl dX5_readByte_83
          refine qv_if_ge (pc := 71) (tgt := 78) g dX5_readByte_71 (by decide) ?_ ?_
          · refine qv_iload (pc := 78) g dX5_readByte_78 rfl ?_
            refine qv_lv [] rfl ?_
            exact qk5 _
          · refine qv_iconst (v := 1) (pc := 74) g dX5_readByte_74 (by decide) ?_
            refine qv_goto (pc := 75) (tgt := 80) g dX5_readByte_75 (by decide) ?_
            refine qv_lv [] rfl ?_
            exact qk5 _
      · refine qv_aload_n (pc := 48) g dX5_readByte_48 rfl rfl ?_
        refine qv_aIM (qv_cv (pc := 49) g (c_X5_openGroup (gl G) X (d + 3) T _ M ht) (qv_R hRm (by omega) (by decide)) ⟨Nat.zero_le _, Nat.zero_le _⟩ mw_X5_openGroup lk_RX5_58 im_X5_openGroup se_X5_openGroup (by decide) rfl ht pd_X5_openGroup rfl (Nat.le_of_ble_eq_true rfl) dX5_readByte_49) (fun v8 M9 => ?_)
        exact qv_zretg (pc := 52) g hr rfl dX5_readByte_52
    · refine qv_aload_n (pc := 30) g dX5_readByte_30 rfl rfl ?_
      refine qv_dup (pc := 31) g dX5_readByte_31 rfl ?_
      refine qv_gets (pc := 32) g fw_RX5_31 ht (by decide) (by decide) rfl dX5_readByte_32 (fun v10 => ?_)
      refine qv_iconst (v := 1) (pc := 35) g dX5_readByte_35 (by decide) ?_
      refine qv_iadd (pc := 36) g dX5_readByte_36 ?_
      refine qv_puti (pc := 37) g pw_RX5_31 ht (by decide) (by decide) rfl dX5_readByte_37 (fun M11 => ?_)
      refine qv_iconst (v := 1) (pc := 40) g dX5_readByte_40 (by decide) ?_
      exact qv_zret (pc := 41) g hr rfl rfl dX5_readByte_41
  · refine qv_aload_n (pc := 17) g dX5_readByte_17 rfl rfl ?_
    refine qv_iload (pc := 18) g dX5_readByte_18 rfl ?_
    refine qv_aIM (qv_cv (pc := 20) g (c_X5_readGate (gl G) X d T _ _ M ht) (qv_R hRm (by omega) (by decide)) ⟨Nat.zero_le _, Nat.zero_le _⟩ mw_X5_readGate lk_RX5_55 im_X5_readGate se_X5_readGate (by decide) rfl ht pd_X5_readGate rfl (Nat.le_of_ble_eq_true rfl) dX5_readByte_20) (fun v12 M13 => ?_)
    exact qv_zretg (pc := 23) g hr rfl dX5_readByte_23

set_option maxHeartbeats 4000000 in
set_option maxRecDepth 100000 in
theorem c_X5_read (l : Launch) (X : qv_X) (d : Nat) (T : List qv_Ent) (t : Nat) (t1 : Nat) (t2 : Nat) (M : qv_Mem) {nt : Nat} (ht : qv_is (nt + 1) T 5 7 t) {nt1 : Nat} (ht1 : qv_is (nt1 + 1) T 8 2 t1) {nt2 : Nat} (ht2 : qv_is (nt2 + 1) T 6 2 t2) : qv_Ok l X yX5_read cX5_read 4 (some .boolean) (d + 5) T M [.ref (X.2.2.2 + t), .ref (X.2.2.2 + t1), .ref (X.2.2.2 + t2)] qv_eIM (f_X5_read T t t1 t2 M) := by
  refine qv_mk (lv := [(0, .ref (X.2.2.2 + t)), (1, .ref (X.2.2.2 + t1)), (2, .ref (X.2.2.2 + t2))]) (by decide) (Nat.le_of_ble_eq_true rfl) rfl (fun G hG hRm g hr => ?_)
  have g : qv_ok G X cX5_read RX5 4 := g
  unfold f_X5_read
  refine qv_aload_n (pc := 0) g dX5_read_0 rfl rfl ?_
  refine qv_iconst (v := 0) (pc := 1) g dX5_read_1 (by decide) ?_
  refine qv_puti (pc := 2) g pw_RX5_24 ht (by decide) (by decide) rfl dX5_read_2 (fun M1 => ?_)
  refine qv_aload_n (pc := 5) g dX5_read_5 rfl rfl ?_
  refine qv_iconst (v := 0) (pc := 6) g dX5_read_6 (by decide) ?_
  refine qv_puti (pc := 7) g pw_RX5_28 ht (by decide) (by decide) rfl dX5_read_7 (fun M2 => ?_)
  refine qv_aload_n (pc := 10) g dX5_read_10 rfl rfl ?_
  refine qv_iconst (v := 0) (pc := 11) g dX5_read_11 (by decide) ?_
  refine qv_puti (pc := 12) g pw_RX5_31 ht (by decide) (by decide) rfl dX5_read_12 (fun M3 => ?_)
  refine qv_aload_n (pc := 15) g dX5_read_15 rfl rfl ?_
  have h1 : qv_is _ T 20 5 (qv_rf T t 2) := ht.to 2 (by decide) (by decide) rfl
  refine qv_getr (pc := 16) g fw_RX5_18 ht (by decide) (by decide) rfl dX5_read_16 ?_
  refine qv_iconst (v := 0) (pc := 19) g dX5_read_19 (by decide) ?_
  refine qv_iconst (v := 0) (pc := 20) g dX5_read_20 (by decide) ?_
  refine qv_iast (pc := 21) g h1 dX5_read_21 (fun M4 => ?_)
  refine qv_iconst (v := 0) (pc := 22) g dX5_read_22 (by decide) ?_
  refine qv_istore_n (pc := 23) (lv1 := [(3, .int 0), (0, .ref (X.2.2.2 + t)), (1, .ref (X.2.2.2 + t1)), (2, .ref (X.2.2.2 + t2))]) g dX5_read_23 rfl (by decide) rfl ?_
  refine qv_join (fun (k6 : qv_Mem → Option (Int32 × qv_Mem)) => ∀ (M5 : qv_Mem), qv_V G X 4 (qv_QM G X T qv_eIM (0, 0)) T (0, 0) 49 [(0, .ref (X.2.2.2 + t)), (2, .ref (X.2.2.2 + t2))] [] M5 (k6 M5)) (fun M5 => ?_) (fun k6 qk6 => ?_)
  · refine qv_aload_n (pc := 49) g dX5_read_49 rfl rfl ?_
    refine qv_iconst (v := 0) (pc := 50) g dX5_read_50 (by decide) ?_
    refine qv_puti (pc := 51) g pw_RX5_41 ht2 (by decide) (by decide) rfl dX5_read_51 (fun M7 => ?_)
    refine qv_iconst (v := 0) (pc := 54) g dX5_read_54 (by decide) ?_
    refine qv_istore_n (pc := 55) (lv1 := [(3, .int 0), (0, .ref (X.2.2.2 + t)), (2, .ref (X.2.2.2 + t2))]) g dX5_read_55 rfl (by decide) rfl ?_
    refine qv_join (fun (k9 : qv_Mem → Option (Int32 × qv_Mem)) => ∀ (M8 : qv_Mem), qv_V G X 4 (qv_QM G X T qv_eIM (0, 0)) T (0, 0) 85 [] [] M8 (k9 M8)) (fun M8 => ?_) (fun k9 qk9 => ?_)
    · refine qv_iconst (v := 1) (pc := 85) g dX5_read_85 (by decide) ?_
      exact qv_zret (pc := 86) g hr rfl rfl dX5_read_86
    refine qv_lv [1, 2, 0] rfl ?_
    exact qv_L2 (Vh := fun (v10 : Int32) (M11 : qv_Mem) o => qv_V G X 4 (qv_QM G X T qv_eIM (0, 0)) T (0, 0) 56 [(0, .ref (X.2.2.2 + t)), (2, .ref (X.2.2.2 + t2)), (3, .int v10)] [] M11 o) (fun _ _ => qv_none) (fun r12 qr12 v10 M11 => by
      unfold b_X5_read_56
      refine qv_iload_n (pc := 56) g dX5_read_56 rfl rfl ?_
      refine qv_aload_n (pc := 57) g dX5_read_57 rfl rfl ?_
      refine qv_gets (pc := 58) g fw_RX5_24 ht (by decide) (by decide) rfl dX5_read_58 (fun v13 => ?_)
      refine qv_icmp_ge (pc := 61) (tgt := 85) g dX5_read_61 (by decide) ?_ ?_
      · refine qv_lv [] rfl ?_
        exact qk9 _
      · refine qv_aload_n (pc := 64) g dX5_read_64 rfl rfl ?_
        refine qv_aload_n (pc := 65) g dX5_read_65 rfl rfl ?_
        have h2 : qv_is _ T 20 300 (qv_rf T t 0) := ht.to 0 (by decide) (by decide) rfl
        refine qv_getr (pc := 66) g fw_RX5_9 ht (by decide) (by decide) rfl dX5_read_66 ?_
        refine qv_iload_n (pc := 69) g dX5_read_69 rfl rfl ?_
        refine qv_iald (pc := 70) g h2 dX5_read_70 (fun v14 => ?_)
        refine qv_aIM (qv_cv (pc := 71) g (c_X6_add (gl G) X (d + 4) T _ _ M11 ht2) (qv_R hRm (by omega) (by decide)) ⟨Nat.zero_le _, Nat.zero_le _⟩ mw_X6_add lk_RX5_44 im_X6_add se_X6_add (by decide) rfl ht2 pd_X6_add rfl (Nat.le_of_ble_eq_true rfl) dX5_read_71) (fun v15 M16 => ?_)
        refine qv_if_ne (pc := 74) (tgt := 79) g dX5_read_74 (by decide) ?_ ?_
        · refine qv_iinc (pc := 79) (v := (v10 + 1)) (lv1 := [(3, .int (v10 + 1)), (0, .ref (X.2.2.2 + t)), (2, .ref (X.2.2.2 + t2))]) g dX5_read_79 rfl rfl (by decide) rfl ?_
          refine qv_goto (pc := 82) (tgt := 56) g dX5_read_82 (by decide) ?_
          refine qv_lv [1, 2, 0] rfl ?_
          exact qr12 _ _
        · refine qv_iconst (v := 0) (pc := 77) g dX5_read_77 (by decide) ?_
          exact qv_zret (pc := 78) g hr rfl rfl dX5_read_78) _ _ _
  refine qv_lv [1, 2, 3, 0] rfl ?_
  exact qv_L2 (Vh := fun (v17 : Int32) (M18 : qv_Mem) o => qv_V G X 4 (qv_QM G X T qv_eIM (0, 0)) T (0, 0) 24 [(0, .ref (X.2.2.2 + t)), (1, .ref (X.2.2.2 + t1)), (2, .ref (X.2.2.2 + t2)), (3, .int v17)] [] M18 o) (fun _ _ => qv_none) (fun r19 qr19 v17 M18 => by
    unfold b_X5_read_24
    refine qv_iload_n (pc := 24) g dX5_read_24 rfl rfl ?_
    refine qv_aload_n (pc := 25) g dX5_read_25 rfl rfl ?_
    refine qv_gets (pc := 26) g fw_RX5_34 ht1 (by decide) (by decide) rfl dX5_read_26 (fun v20 => ?_)
    refine qv_icmp_ge (pc := 29) (tgt := 49) g dX5_read_29 (by decide) ?_ ?_
    · refine qv_lv [0, 2] rfl ?_
      exact qk6 _
    · refine qv_aload_n (pc := 32) g dX5_read_32 rfl rfl ?_
      refine qv_aload_n (pc := 33) g dX5_read_33 rfl rfl ?_
      refine qv_iload_n (pc := 34) g dX5_read_34 rfl rfl ?_
      refine qv_aIM (qv_cv (pc := 35) g (c_X5_readByte (gl G) X d T _ _ _ M18 ht ht1) (qv_R hRm (by omega) (by decide)) ⟨Nat.zero_le _, Nat.zero_le _⟩ mw_X5_readByte lk_RX5_37 im_X5_readByte se_X5_readByte (by decide) rfl ht pd_X5_readByte rfl (Nat.le_of_ble_eq_true rfl) dX5_read_35) (fun v21 M22 => ?_)
      refine qv_if_ne (pc := 38) (tgt := 43) g dX5_read_38 (by decide) ?_ ?_
      · refine qv_iinc (pc := 43) (v := (v17 + 1)) (lv1 := [(3, .int (v17 + 1)), (0, .ref (X.2.2.2 + t)), (1, .ref (X.2.2.2 + t1)), (2, .ref (X.2.2.2 + t2))]) g dX5_read_43 rfl rfl (by decide) rfl ?_
        refine qv_goto (pc := 46) (tgt := 24) g dX5_read_46 (by decide) ?_
        refine qv_lv [1, 2, 3, 0] rfl ?_
        exact qr19 _ _
      · refine qv_iconst (v := 0) (pc := 41) g dX5_read_41 (by decide) ?_
        exact qv_zret (pc := 42) g hr rfl rfl dX5_read_42) _ _ _

set_option maxHeartbeats 4000000 in
set_option maxRecDepth 100000 in
theorem c_X9_write (l : Launch) (X : qv_X) (d : Nat) (T : List qv_Ent) (t : Nat) (p1 : Int32) (M : qv_Mem) {nt : Nat} (ht : qv_is (nt + 4) T 9 14 t) : qv_Ok l X yX9_write cX9_write 4 (some .int) (d + 6) T M [.ref (X.2.2.2 + t), .int p1] qv_eIM (f_X9_write T t p1 M) := by
  refine qv_mk (lv := [(0, .ref (X.2.2.2 + t)), (1, .int p1)]) (by decide) (Nat.le_of_ble_eq_true rfl) rfl (fun G hG hRm g hr => ?_)
  have g : qv_ok G X cX9_write RX9 4 := g
  unfold f_X9_write
  refine qv_iload_n (pc := 0) g dX9_write_0 rfl rfl ?_
  refine qv_aI rfl (qv_cs (pc := 1) g (c_X9_isWord (gl G) X (d + 4) T _ M) (qv_R hRm (by omega) (by decide)) ⟨Nat.zero_le _, Nat.zero_le _⟩ mw_X9_isWord lk_RX9_194 st_X9_isWord pd_X9_isWord rfl (Nat.le_of_ble_eq_true rfl) dX9_write_1) (fun v1 => ?_)
  refine qv_if_ne (pc := 4) (tgt := 9) g dX9_write_4 (by decide) ?_ ?_
  · refine qv_aload_n (pc := 9) g dX9_write_9 rfl rfl ?_
    have h1 : qv_is _ T 8 2 (qv_rf T t 4) := ht.to 4 (by decide) (by decide) rfl
    refine qv_getr (pc := 10) g fw_RX9_35 ht (by decide) (by decide) rfl dX9_write_10 ?_
    refine qv_aI rfl (qv_cv (pc := 13) g (c_X8_findFault (gl G) X (d + 2) T _ M h1) (qv_R hRm (by omega) (by decide)) ⟨Nat.zero_le _, Nat.zero_le _⟩ mw_X8_findFault lk_RX9_247 im_X8_findFault se_X8_findFault (by decide) rfl h1 pd_X8_findFault rfl (Nat.le_of_ble_eq_true rfl) dX9_write_13) (fun v2 => ?_)
    refine qv_istore_n (pc := 16) (lv1 := [(2, .int v2), (0, .ref (X.2.2.2 + t)), (1, .int p1)]) g dX9_write_16 rfl (by decide) rfl ?_
    refine qv_iload_n (pc := 17) g dX9_write_17 rfl rfl ?_
    refine qv_join (fun (k5 : Int32 → qv_Mem → Option (Int32 × qv_Mem)) => ∀ (v3 : Int32) (M4 : qv_Mem), qv_V G X 4 (qv_QM G X T qv_eIM (0, 0)) T (0, 0) 44 [(0, .ref (X.2.2.2 + t)), (1, .int p1), (2, .int v2)] [.int v3] M4 (k5 v3 M4)) (fun v3 M4 => ?_) (fun k5 qk5 => ?_)
    · refine qv_istore_n (pc := 44) (lv1 := [(3, .int v3), (0, .ref (X.2.2.2 + t)), (1, .int p1), (2, .int v2)]) g dX9_write_44 rfl (by decide) rfl ?_
      refine qv_aload_n (pc := 45) g dX9_write_45 rfl rfl ?_
      refine qv_getr (pc := 46) g fw_RX9_35 ht (by decide) (by decide) rfl dX9_write_46 ?_
      refine qv_iconst (v := 0) (pc := 49) g dX9_write_49 (by decide) ?_
      refine qv_puti (pc := 50) g pw_RX9_246 h1 (by decide) (by decide) rfl dX9_write_50 (fun M6 => ?_)
      refine qv_iload_n (pc := 53) g dX9_write_53 rfl rfl ?_
      refine qv_if_lt (pc := 54) (tgt := 62) g dX9_write_54 (by decide) ?_ ?_
      · refine qv_iload_n (pc := 62) g dX9_write_62 rfl rfl ?_
        refine qv_if_eq (pc := 63) (tgt := 74) g dX9_write_63 (by decide) ?_ ?_
        · refine qv_bipush (v := (-3)) (pc := 74) g dX9_write_74 (by decide) ?_
          exact qv_iret (pc := 76) g hr rfl dX9_write_76
        · refine qv_aload_n (pc := 66) g dX9_write_66 rfl rfl ?_
          refine qv_iload_n (pc := 67) g dX9_write_67 rfl rfl ?_
          refine qv_aIM (qv_cv (pc := 68) g (c_X9_settleWord (gl G) X (d + 3) T _ _ M6 ht) (qv_R hRm (by omega) (by decide)) ⟨Nat.zero_le _, Nat.zero_le _⟩ mw_X9_settleWord lk_RX9_207 im_X9_settleWord se_X9_settleWord (by decide) rfl ht pd_X9_settleWord rfl (Nat.le_of_ble_eq_true rfl) dX9_write_68) (fun v7 M8 => ?_)
          refine qv_goto (pc := 71) (tgt := 76) g dX9_write_71 (by decide) ?_
          exact qv_iret (pc := 76) g hr rfl dX9_write_76
      · refine qv_bipush (v := (-100)) (pc := 57) g dX9_write_57 (by decide) ?_
        refine qv_iload_n (pc := 59) g dX9_write_59 rfl rfl ?_
        refine qv_isub (pc := 60) g dX9_write_60 ?_
        exact qv_iret (pc := 61) g hr rfl dX9_write_61
    refine qv_if_ge (pc := 18) (tgt := 43) g dX9_write_18 (by decide) ?_ ?_
    · refine qv_iconst (v := 0) (pc := 43) g dX9_write_43 (by decide) ?_
      refine qv_lv [1, 2, 0] rfl ?_
      exact qk5 _ _
    · refine qv_aload_n (pc := 21) g dX9_write_21 rfl rfl ?_
      have h2 : qv_is _ T 5 7 (qv_rf T t 5) := ht.to 5 (by decide) (by decide) rfl
      refine qv_getr (pc := 22) g fw_RX9_42 ht (by decide) (by decide) rfl dX9_write_22 ?_
      refine qv_aload_n (pc := 25) g dX9_write_25 rfl rfl ?_
      refine qv_getr (pc := 26) g fw_RX9_35 ht (by decide) (by decide) rfl dX9_write_26 ?_
      refine qv_aload_n (pc := 29) g dX9_write_29 rfl rfl ?_
      have h3 : qv_is _ T 6 2 (qv_rf T t 9) := ht.to 9 (by decide) (by decide) rfl
      refine qv_getr (pc := 30) g fw_RX9_70 ht (by decide) (by decide) rfl dX9_write_30 ?_
      refine qv_aIM (qv_cv (pc := 33) g (c_X5_read (gl G) X d T _ _ _ M h2 h1 h3) (qv_R hRm (by omega) (by decide)) ⟨Nat.zero_le _, Nat.zero_le _⟩ mw_X5_read lk_RX9_251 im_X5_read se_X5_read (by decide) rfl h2 pd_X5_read rfl (Nat.le_of_ble_eq_true rfl) dX9_write_33) (fun v9 M10 => ?_)
      refine qv_if_eq (pc := 36) (tgt := 43) g dX9_write_36 (by decide) ?_ ?_
      · refine qv_iconst (v := 0) (pc := 43) g dX9_write_43 (by decide) ?_
        refine qv_lv [1, 2, 0] rfl ?_
        exact qk5 _ _
      · refine qv_iconst (v := 1) (pc := 39) g dX9_write_39 (by decide) ?_
        refine qv_goto (pc := 40) (tgt := 44) g dX9_write_40 (by decide) ?_
        refine qv_lv [1, 2, 0] rfl ?_
        exact qk5 _ _
  · refine qv_iconst (v := (-1)) (pc := 7) g dX9_write_7 (by decide) ?_
    exact qv_iret (pc := 8) g hr rfl dX9_write_8

set_option maxHeartbeats 4000000 in
set_option maxRecDepth 100000 in
theorem c_X0_makeCopy (l : Launch) (X : qv_X) (d : Nat) (T : List qv_Ent) (t : Nat) (t1 : Nat) (M : qv_Mem) {nt : Nat} (ht : qv_is (nt + 3) T 0 3 t) {nt1 : Nat} (ht1 : qv_is (nt1 + 3) T 0 3 t1) : qv_Ok l X yX0_makeCopy cX0_makeCopy 3 none (d + 1) T M [.ref (X.2.2.2 + t), .ref (X.2.2.2 + t1)] qv_eV (f_X0_makeCopy T t t1 M) := by
  refine qv_mk (lv := [(0, .ref (X.2.2.2 + t)), (1, .ref (X.2.2.2 + t1))]) (by decide) (Nat.le_of_ble_eq_true rfl) rfl (fun G hG hRm g hr => ?_)
  have g : qv_ok G X cX0_makeCopy RX0 3 := g
  unfold f_X0_makeCopy
  refine qv_iconst (v := 0) (pc := 0) g dX0_makeCopy_0 (by decide) ?_
  refine qv_istore_n (pc := 1) (lv1 := [(2, .int 0), (0, .ref (X.2.2.2 + t)), (1, .ref (X.2.2.2 + t1))]) g dX0_makeCopy_1 rfl (by decide) rfl ?_
  refine qv_join (fun (k2 : qv_Mem → Option qv_Mem) => ∀ (M1 : qv_Mem), qv_V G X 3 (qv_QM G X T qv_eV (0, 0)) T (0, 0) 28 [(0, .ref (X.2.2.2 + t)), (1, .ref (X.2.2.2 + t1))] [] M1 (k2 M1)) (fun M1 => ?_) (fun k2 qk2 => ?_)
  · refine qv_iconst (v := 0) (pc := 28) g dX0_makeCopy_28 (by decide) ?_
    refine qv_istore_n (pc := 29) (lv1 := [(2, .int 0), (0, .ref (X.2.2.2 + t)), (1, .ref (X.2.2.2 + t1))]) g dX0_makeCopy_29 rfl (by decide) rfl ?_
    refine qv_join (fun (k4 : qv_Mem → Option qv_Mem) => ∀ (M3 : qv_Mem), qv_V G X 3 (qv_QM G X T qv_eV (0, 0)) T (0, 0) 56 [(0, .ref (X.2.2.2 + t)), (1, .ref (X.2.2.2 + t1))] [] M3 (k4 M3)) (fun M3 => ?_) (fun k4 qk4 => ?_)
    · refine qv_aload_n (pc := 56) g dX0_makeCopy_56 rfl rfl ?_
      have h1 : qv_is _ T 20 7 (qv_rf T t1 2) := ht1.to 2 (by decide) (by decide) rfl
      refine qv_getr (pc := 57) g fw_RX0_23 ht1 (by decide) (by decide) rfl dX0_makeCopy_57 ?_
      refine qv_iconst (v := 0) (pc := 60) g dX0_makeCopy_60 (by decide) ?_
      refine qv_aload_n (pc := 61) g dX0_makeCopy_61 rfl rfl ?_
      have h2 : qv_is _ T 20 7 (qv_rf T t 2) := ht.to 2 (by decide) (by decide) rfl
      refine qv_getr (pc := 62) g fw_RX0_23 ht (by decide) (by decide) rfl dX0_makeCopy_62 ?_
      refine qv_iconst (v := 0) (pc := 65) g dX0_makeCopy_65 (by decide) ?_
      refine qv_bipush (v := 7) (pc := 66) g dX0_makeCopy_66 (by decide) ?_
      refine qv_copyI (pc := 68) g lk_RX0_36 nt_copy st_copy ini_sys h1 h2 (Nat.le_of_ble_eq_true rfl) dX0_makeCopy_68 (fun M5 => ?_)
      exact qv_vret (pc := 71) g hr rfl dX0_makeCopy_71
    refine qv_lv [1, 2, 0] rfl ?_
    exact qv_L2 (Vh := fun (v6 : Int32) (M7 : qv_Mem) o => qv_V G X 3 (qv_QM G X T qv_eV (0, 0)) T (0, 0) 30 [(0, .ref (X.2.2.2 + t)), (1, .ref (X.2.2.2 + t1)), (2, .int v6)] [] M7 o) (fun _ _ => qv_none) (fun r8 qr8 v6 M7 => by
      unfold b_X0_makeCopy_30
      refine qv_iload_n (pc := 30) g dX0_makeCopy_30 rfl rfl ?_
      refine qv_iconst (v := 3) (pc := 31) g dX0_makeCopy_31 (by decide) ?_
      refine qv_icmp_ge (pc := 32) (tgt := 56) g dX0_makeCopy_32 (by decide) ?_ ?_
      · refine qv_lv [0, 1] rfl ?_
        exact qk4 _
      · refine qv_aload_n (pc := 35) g dX0_makeCopy_35 rfl rfl ?_
        have h3 : qv_is _ T 36 3 (qv_rf T t 1) := ht.to 1 (by decide) (by decide) rfl
        refine qv_getr (pc := 36) g fw_RX0_19 ht (by decide) (by decide) rfl dX0_makeCopy_36 ?_
        refine qv_iload_n (pc := 39) g dX0_makeCopy_39 rfl rfl ?_
        refine qv_aald (pc := 40) g (by decide) h3 (fun _ _ => ⟨_, rfl⟩) dX0_makeCopy_40 (fun z9 => ?_)
        have h4 : qv_is _ T 6 2 (qv_rf T (qv_rf T t 1) v6.toNatClampNeg) := h3.to _ (by decide) (qv_inb_lt z9) rfl
        refine qv_aload_n (pc := 41) g dX0_makeCopy_41 rfl rfl ?_
        have h5 : qv_is _ T 36 3 (qv_rf T t1 1) := ht1.to 1 (by decide) (by decide) rfl
        refine qv_getr (pc := 42) g fw_RX0_19 ht1 (by decide) (by decide) rfl dX0_makeCopy_42 ?_
        refine qv_iload_n (pc := 45) g dX0_makeCopy_45 rfl rfl ?_
        refine qv_aald (pc := 46) g (by decide) h5 (fun _ _ => ⟨_, rfl⟩) dX0_makeCopy_46 (fun z10 => ?_)
        have h6 : qv_is _ T 6 2 (qv_rf T (qv_rf T t1 1) v6.toNatClampNeg) := h5.to _ (by decide) (qv_inb_lt z10) rfl
        refine qv_aV (qv_cv (pc := 47) g (c_X6_makeCopy (gl G) X d T _ _ M7 h4 h6) (qv_R hRm (by omega) (by decide)) ⟨Nat.zero_le _, Nat.zero_le _⟩ mw_X6_makeCopy lk_RX0_33 im_X6_makeCopy se_X6_makeCopy (by decide) rfl h4 pd_X6_makeCopy rfl (Nat.le_of_ble_eq_true rfl) dX0_makeCopy_47) (fun M11 => ?_)
        refine qv_iinc (pc := 50) (v := (v6 + 1)) (lv1 := [(2, .int (v6 + 1)), (0, .ref (X.2.2.2 + t)), (1, .ref (X.2.2.2 + t1))]) g dX0_makeCopy_50 rfl rfl (by decide) rfl ?_
        refine qv_goto (pc := 53) (tgt := 30) g dX0_makeCopy_53 (by decide) ?_
        refine qv_lv [1, 2, 0] rfl ?_
        exact qr8 _ _) _ _ _
  refine qv_lv [1, 2, 0] rfl ?_
  exact qv_L2 (Vh := fun (v12 : Int32) (M13 : qv_Mem) o => qv_V G X 3 (qv_QM G X T qv_eV (0, 0)) T (0, 0) 2 [(0, .ref (X.2.2.2 + t)), (1, .ref (X.2.2.2 + t1)), (2, .int v12)] [] M13 o) (fun _ _ => qv_none) (fun r14 qr14 v12 M13 => by
    unfold b_X0_makeCopy_2
    refine qv_iload_n (pc := 2) g dX0_makeCopy_2 rfl rfl ?_
    refine qv_iconst (v := 4) (pc := 3) g dX0_makeCopy_3 (by decide) ?_
    refine qv_icmp_ge (pc := 4) (tgt := 28) g dX0_makeCopy_4 (by decide) ?_ ?_
    · refine qv_lv [0, 1] rfl ?_
      exact qk2 _
    · refine qv_aload_n (pc := 7) g dX0_makeCopy_7 rfl rfl ?_
      have h7 : qv_is _ T 37 4 (qv_rf T t 0) := ht.to 0 (by decide) (by decide) rfl
      refine qv_getr (pc := 8) g fw_RX0_11 ht (by decide) (by decide) rfl dX0_makeCopy_8 ?_
      refine qv_iload_n (pc := 11) g dX0_makeCopy_11 rfl rfl ?_
      refine qv_aald (pc := 12) g (by decide) h7 (fun _ _ => ⟨_, rfl⟩) dX0_makeCopy_12 (fun z15 => ?_)
      have h8 : qv_is _ T 7 2 (qv_rf T (qv_rf T t 0) v12.toNatClampNeg) := h7.to _ (by decide) (qv_inb_lt z15) rfl
      refine qv_aload_n (pc := 13) g dX0_makeCopy_13 rfl rfl ?_
      have h9 : qv_is _ T 37 4 (qv_rf T t1 0) := ht1.to 0 (by decide) (by decide) rfl
      refine qv_getr (pc := 14) g fw_RX0_11 ht1 (by decide) (by decide) rfl dX0_makeCopy_14 ?_
      refine qv_iload_n (pc := 17) g dX0_makeCopy_17 rfl rfl ?_
      refine qv_aald (pc := 18) g (by decide) h9 (fun _ _ => ⟨_, rfl⟩) dX0_makeCopy_18 (fun z16 => ?_)
      have h10 : qv_is _ T 7 2 (qv_rf T (qv_rf T t1 0) v12.toNatClampNeg) := h9.to _ (by decide) (qv_inb_lt z16) rfl
      refine qv_aV (qv_cv (pc := 19) g (c_X7_makeCopy (gl G) X d T _ _ M13 h8 h10) (qv_R hRm (by omega) (by decide)) ⟨Nat.zero_le _, Nat.zero_le _⟩ mw_X7_makeCopy lk_RX0_29 im_X7_makeCopy se_X7_makeCopy (by decide) rfl h8 pd_X7_makeCopy rfl (Nat.le_of_ble_eq_true rfl) dX0_makeCopy_19) (fun M17 => ?_)
      refine qv_iinc (pc := 22) (v := (v12 + 1)) (lv1 := [(2, .int (v12 + 1)), (0, .ref (X.2.2.2 + t)), (1, .ref (X.2.2.2 + t1))]) g dX0_makeCopy_22 rfl rfl (by decide) rfl ?_
      refine qv_goto (pc := 25) (tgt := 2) g dX0_makeCopy_25 (by decide) ?_
      refine qv_lv [1, 2, 0] rfl ?_
      exact qr14 _ _) _ _ _

