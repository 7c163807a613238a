set_option maxHeartbeats 4000000 in
set_option maxRecDepth 100000 in
theorem c_X10_walks (l : Launch) (X : qv_X) (d : Nat) (T : List qv_Ent) (t : Nat) (M : qv_Mem) {nt : Nat} (ht : qv_is (nt + 1) T 10 29 t) : qv_Ok l X yX10_walks cX10_walks 3 none (d + 4) T M [.ref (X.2.2.2 + t)] qv_eV (f_X10_walks T t M) := by
  refine qv_mk (lv := [(0, .ref (X.2.2.2 + t))]) (by decide) (Nat.le_of_ble_eq_true rfl) rfl (fun G hG hRm g hr => ?_)
  have g : qv_ok G X cX10_walks RX10 3 := g
  unfold f_X10_walks
  refine qv_aload_n (pc := 0) g dX10_walks_0 rfl rfl ?_
  refine qv_bipush (v := 14) (pc := 1) g dX10_walks_1 (by decide) ?_
  refine qv_aV (qv_cv (pc := 3) g (c_X10_saves (gl G) X (d + 3) T _ _ M ht) (qv_R hRm (by omega) (by decide)) ⟨Nat.zero_le _, Nat.zero_le _⟩ mw_X10_saves lk_RX10_154 im_X10_saves se_X10_saves (by decide) rfl ht pd_X10_saves rfl (Nat.le_of_ble_eq_true rfl) dX10_walks_3) (fun M1 => ?_)
  refine qv_iconst (v := 0) (pc := 6) g dX10_walks_6 (by decide) ?_
  refine qv_istore_n (pc := 7) (lv1 := [(1, .int 0), (0, .ref (X.2.2.2 + t))]) g dX10_walks_7 rfl (by decide) rfl ?_
  refine qv_join (fun (k3 : qv_Mem → Option qv_Mem) => ∀ (M2 : qv_Mem), qv_V G X 3 (qv_QM G X T qv_eV (0, 0)) T (0, 0) 87 [(0, .ref (X.2.2.2 + t))] [] M2 (k3 M2)) (fun M2 => ?_) (fun k3 qk3 => ?_)
  · refine qv_iconst (v := 0) (pc := 87) g dX10_walks_87 (by decide) ?_
    refine qv_istore_n (pc := 88) (lv1 := [(1, .int 0), (0, .ref (X.2.2.2 + t))]) g dX10_walks_88 rfl (by decide) rfl ?_
    refine qv_join (fun (k5 : qv_Mem → Option qv_Mem) => ∀ (M4 : qv_Mem), qv_V G X 3 (qv_QM G X T qv_eV (0, 0)) T (0, 0) 205 [] [] M4 (k5 M4)) (fun M4 => ?_) (fun k5 qk5 => ?_)
    · exact qv_vret (pc := 205) g hr rfl dX10_walks_205
    refine qv_lv [1, 0] rfl ?_
    exact qv_L2 (Vh := fun (v6 : Int32) (M7 : qv_Mem) o => qv_V G X 3 (qv_QM G X T qv_eV (0, 0)) T (0, 0) 89 [(0, .ref (X.2.2.2 + t)), (1, .int v6)] [] M7 o) (fun _ _ => qv_none) (fun r8 qr8 v6 M7 => by
      unfold b_X10_walks_89
      refine qv_iload_n (pc := 89) g dX10_walks_89 rfl rfl ?_
      refine qv_aload_n (pc := 90) g dX10_walks_90 rfl rfl ?_
      refine qv_gets (pc := 91) g fw_RX10_150 ht (by decide) (by decide) rfl dX10_walks_91 (fun v9 => ?_)
      refine qv_icmp_ge (pc := 94) (tgt := 205) g dX10_walks_94 (by decide) ?_ ?_
      · refine qv_lv [] rfl ?_
        exact qk5 _
      · refine qv_iconst (v := 0) (pc := 97) g dX10_walks_97 (by decide) ?_
        refine qv_istore_n (pc := 98) (lv1 := [(2, .int 0), (0, .ref (X.2.2.2 + t)), (1, .int v6)]) g dX10_walks_98 rfl (by decide) rfl ?_
        refine qv_join (fun (k11 : qv_Mem → Option qv_Mem) => ∀ (M10 : qv_Mem), qv_V G X 3 (qv_QM G X T qv_eV (0, 0)) T (0, 0) 199 [(0, .ref (X.2.2.2 + t)), (1, .int v6)] [] M10 (k11 M10)) (fun M10 => ?_) (fun k11 qk11 => ?_)
        · refine qv_iinc (pc := 199) (v := (v6 + 1)) (lv1 := [(1, .int (v6 + 1)), (0, .ref (X.2.2.2 + t))]) g dX10_walks_199 rfl rfl (by decide) rfl ?_
          refine qv_goto (pc := 202) (tgt := 89) g dX10_walks_202 (by decide) ?_
          refine qv_lv [1, 0] rfl ?_
          exact qr8 _ _
        refine qv_lv [1, 2, 0] rfl ?_
        exact qv_L2 (Vh := fun (v12 : Int32) (M13 : qv_Mem) o => qv_V G X 3 (qv_QM G X T qv_eV (0, 0)) T (0, 0) 99 [(0, .ref (X.2.2.2 + t)), (1, .int v6), (2, .int v12)] [] M13 o) (fun _ _ => qv_none) (fun r14 qr14 v12 M13 => by
          unfold b_X10_walks_99
          refine qv_iload_n (pc := 99) g dX10_walks_99 rfl rfl ?_
          refine qv_bipush (v := 7) (pc := 100) g dX10_walks_100 (by decide) ?_
          refine qv_icmp_ge (pc := 102) (tgt := 199) g dX10_walks_102 (by decide) ?_ ?_
          · refine qv_lv [0, 1] rfl ?_
            exact qk11 _
          · refine qv_iload_n (pc := 105) g dX10_walks_105 rfl rfl ?_
            refine qv_aI rfl (qv_cs (pc := 106) g (c_X10_isClifford (gl G) X (d + 3) T _ M13) (qv_R hRm (by omega) (by decide)) ⟨Nat.zero_le _, Nat.zero_le _⟩ mw_X10_isClifford lk_RX10_163 st_X10_isClifford pd_X10_isClifford rfl (Nat.le_of_ble_eq_true rfl) dX10_walks_106) (fun v15 => ?_)
            refine qv_join (fun (k17 : qv_Mem → Option qv_Mem) => ∀ (M16 : qv_Mem), qv_V G X 3 (qv_QM G X T qv_eV (0, 0)) T (0, 0) 193 [(0, .ref (X.2.2.2 + t)), (1, .int v6), (2, .int v12)] [] M16 (k17 M16)) (fun M16 => ?_) (fun k17 qk17 => ?_)
            · refine qv_iinc (pc := 193) (v := (v12 + 1)) (lv1 := [(2, .int (v12 + 1)), (0, .ref (X.2.2.2 + t)), (1, .int v6)]) g dX10_walks_193 rfl rfl (by decide) rfl ?_
              refine qv_goto (pc := 196) (tgt := 99) g dX10_walks_196 (by decide) ?_
              refine qv_lv [1, 2, 0] rfl ?_
              exact qr14 _ _
            refine qv_if_ne (pc := 109) (tgt := 115) g dX10_walks_109 (by decide) ?_ ?_
            · refine qv_aload_n (pc := 115) g dX10_walks_115 rfl rfl ?_
              refine qv_iload_n (pc := 116) g dX10_walks_116 rfl rfl ?_
              refine qv_bipush (v := 15) (pc := 117) g dX10_walks_117 (by decide) ?_
              refine qv_aV (qv_cv (pc := 119) g (c_X10_loads (gl G) X (d + 3) T _ _ _ M13 ht) (qv_R hRm (by omega) (by decide)) ⟨Nat.zero_le _, Nat.zero_le _⟩ mw_X10_loads lk_RX10_157 im_X10_loads se_X10_loads (by decide) rfl ht pd_X10_loads rfl (Nat.le_of_ble_eq_true rfl) dX10_walks_119) (fun M18 => ?_)
              refine qv_aload_n (pc := 122) g dX10_walks_122 rfl rfl ?_
              refine qv_bipush (v := 15) (pc := 123) g dX10_walks_123 (by decide) ?_
              refine qv_bipush (v := 15) (pc := 125) g dX10_walks_125 (by decide) ?_
              refine qv_iconst (v := 4) (pc := 127) g dX10_walks_127 (by decide) ?_
              refine qv_iload_n (pc := 128) g dX10_walks_128 rfl rfl ?_
              refine qv_iadd (pc := 129) g dX10_walks_129 ?_
              refine qv_aV (qv_cv (pc := 130) g (c_X10_product (gl G) X d T _ _ _ _ M18 ht) (qv_R hRm (by omega) (by decide)) ⟨Nat.zero_le _, Nat.zero_le _⟩ mw_X10_product lk_RX10_132 im_X10_product se_X10_product (by decide) rfl ht pd_X10_product rfl (Nat.le_of_ble_eq_true rfl) dX10_walks_130) (fun M19 => ?_)
              refine qv_aload_n (pc := 133) g dX10_walks_133 rfl rfl ?_
              have h1 : qv_is _ T 20 1344 (qv_rf T t 12) := ht.to 12 (by decide) (by decide) rfl
              refine qv_getr (pc := 134) g fw_RX10_46 ht (by decide) (by decide) rfl dX10_walks_134 ?_
              refine qv_bipush (v := 7) (pc := 137) g dX10_walks_137 (by decide) ?_
              refine qv_iload_n (pc := 139) g dX10_walks_139 rfl rfl ?_
              refine qv_imul (pc := 140) g dX10_walks_140 ?_
              refine qv_iload_n (pc := 141) g dX10_walks_141 rfl rfl ?_
              refine qv_iadd (pc := 142) g dX10_walks_142 ?_
              refine qv_aload_n (pc := 143) g dX10_walks_143 rfl rfl ?_
              refine qv_bipush (v := 15) (pc := 144) g dX10_walks_144 (by decide) ?_
              refine qv_aI rfl (qv_cv (pc := 146) g (c_X10_cliffordOf (gl G) X (d + 3) T _ _ M19 ht) (qv_R hRm (by omega) (by decide)) ⟨Nat.zero_le _, Nat.zero_le _⟩ mw_X10_cliffordOf lk_RX10_160 im_X10_cliffordOf se_X10_cliffordOf (by decide) rfl ht pd_X10_cliffordOf rfl (Nat.le_of_ble_eq_true rfl) dX10_walks_146) (fun v20 => ?_)
              refine qv_iast (pc := 149) g h1 dX10_walks_149 (fun M21 => ?_)
              refine qv_aload_n (pc := 150) g dX10_walks_150 rfl rfl ?_
              refine qv_iload_n (pc := 151) g dX10_walks_151 rfl rfl ?_
              refine qv_bipush (v := 15) (pc := 152) g dX10_walks_152 (by decide) ?_
              refine qv_aV (qv_cv (pc := 154) g (c_X10_loads (gl G) X (d + 3) T _ _ _ M21 ht) (qv_R hRm (by omega) (by decide)) ⟨Nat.zero_le _, Nat.zero_le _⟩ mw_X10_loads lk_RX10_157 im_X10_loads se_X10_loads (by decide) rfl ht pd_X10_loads rfl (Nat.le_of_ble_eq_true rfl) dX10_walks_154) (fun M22 => ?_)
              refine qv_aload_n (pc := 157) g dX10_walks_157 rfl rfl ?_
              refine qv_iconst (v := 4) (pc := 158) g dX10_walks_158 (by decide) ?_
              refine qv_iload_n (pc := 159) g dX10_walks_159 rfl rfl ?_
              refine qv_iadd (pc := 160) g dX10_walks_160 ?_
              refine qv_bipush (v := 16) (pc := 161) g dX10_walks_161 (by decide) ?_
              refine qv_aV (qv_cv (pc := 163) g (c_X10_turns (gl G) X (d + 2) T _ _ _ M22 ht) (qv_R hRm (by omega) (by decide)) ⟨Nat.zero_le _, Nat.zero_le _⟩ mw_X10_turns lk_RX10_138 im_X10_turns se_X10_turns (by decide) rfl ht pd_X10_turns rfl (Nat.le_of_ble_eq_true rfl) dX10_walks_163) (fun M23 => ?_)
              refine qv_aload_n (pc := 166) g dX10_walks_166 rfl rfl ?_
              refine qv_bipush (v := 15) (pc := 167) g dX10_walks_167 (by decide) ?_
              refine qv_bipush (v := 16) (pc := 169) g dX10_walks_169 (by decide) ?_
              refine qv_bipush (v := 15) (pc := 171) g dX10_walks_171 (by decide) ?_
              refine qv_aV (qv_cv (pc := 173) g (c_X10_product (gl G) X d T _ _ _ _ M23 ht) (qv_R hRm (by omega) (by decide)) ⟨Nat.zero_le _, Nat.zero_le _⟩ mw_X10_product lk_RX10_132 im_X10_product se_X10_product (by decide) rfl ht pd_X10_product rfl (Nat.le_of_ble_eq_true rfl) dX10_walks_173) (fun M24 => ?_)
              refine qv_aload_n (pc := 176) g dX10_walks_176 rfl rfl ?_
              have h2 : qv_is _ T 20 1344 (qv_rf T t 13) := ht.to 13 (by decide) (by decide) rfl
              refine qv_getr (pc := 177) g fw_RX10_49 ht (by decide) (by decide) rfl dX10_walks_177 ?_
              refine qv_bipush (v := 7) (pc := 180) g dX10_walks_180 (by decide) ?_
              refine qv_iload_n (pc := 182) g dX10_walks_182 rfl rfl ?_
              refine qv_imul (pc := 183) g dX10_walks_183 ?_
              refine qv_iload_n (pc := 184) g dX10_walks_184 rfl rfl ?_
              refine qv_iadd (pc := 185) g dX10_walks_185 ?_
              refine qv_aload_n (pc := 186) g dX10_walks_186 rfl rfl ?_
              refine qv_bipush (v := 15) (pc := 187) g dX10_walks_187 (by decide) ?_
              refine qv_aI rfl (qv_cv (pc := 189) g (c_X10_cliffordOf (gl G) X (d + 3) T _ _ M24 ht) (qv_R hRm (by omega) (by decide)) ⟨Nat.zero_le _, Nat.zero_le _⟩ mw_X10_cliffordOf lk_RX10_160 im_X10_cliffordOf se_X10_cliffordOf (by decide) rfl ht pd_X10_cliffordOf rfl (Nat.le_of_ble_eq_true rfl) dX10_walks_189) (fun v25 => ?_)
              refine qv_iast (pc := 192) g h2 dX10_walks_192 (fun M26 => ?_)
              exact qk17 _
            · refine qv_goto (pc := 112) (tgt := 193) g dX10_walks_112 (by decide) ?_
              exact qk17 _) _ _ _) _ _ _
  refine qv_lv [1, 0] rfl ?_
  exact qv_L2 (Vh := fun (v27 : Int32) (M28 : qv_Mem) o => qv_V G X 3 (qv_QM G X T qv_eV (0, 0)) T (0, 0) 8 [(0, .ref (X.2.2.2 + t)), (1, .int v27)] [] M28 o) (fun _ _ => qv_none) (fun r29 qr29 v27 M28 => by
    unfold b_X10_walks_8
    refine qv_iload_n (pc := 8) g dX10_walks_8 rfl rfl ?_
    refine qv_aload_n (pc := 9) g dX10_walks_9 rfl rfl ?_
    refine qv_gets (pc := 10) g fw_RX10_150 ht (by decide) (by decide) rfl dX10_walks_10 (fun v30 => ?_)
    refine qv_icmp_ge (pc := 13) (tgt := 87) g dX10_walks_13 (by decide) ?_ ?_
    · refine qv_lv [0] rfl ?_
      exact qk3 _
    · refine qv_iconst (v := 0) (pc := 16) g dX10_walks_16 (by decide) ?_
      refine qv_istore_n (pc := 17) (lv1 := [(2, .int 0), (0, .ref (X.2.2.2 + t)), (1, .int v27)]) g dX10_walks_17 rfl (by decide) rfl ?_
      refine qv_join (fun (k32 : qv_Mem → Option qv_Mem) => ∀ (M31 : qv_Mem), qv_V G X 3 (qv_QM G X T qv_eV (0, 0)) T (0, 0) 81 [(0, .ref (X.2.2.2 + t)), (1, .int v27)] [] M31 (k32 M31)) (fun M31 => ?_) (fun k32 qk32 => ?_)
      · refine qv_iinc (pc := 81) (v := (v27 + 1)) (lv1 := [(1, .int (v27 + 1)), (0, .ref (X.2.2.2 + t))]) g dX10_walks_81 rfl rfl (by decide) rfl ?_
        refine qv_goto (pc := 84) (tgt := 8) g dX10_walks_84 (by decide) ?_
        refine qv_lv [1, 0] rfl ?_
        exact qr29 _ _
      refine qv_lv [1, 2, 0] rfl ?_
      exact qv_L2 (Vh := fun (v33 : Int32) (M34 : qv_Mem) o => qv_V G X 3 (qv_QM G X T qv_eV (0, 0)) T (0, 0) 18 [(0, .ref (X.2.2.2 + t)), (1, .int v27), (2, .int v33)] [] M34 o) (fun _ _ => qv_none) (fun r35 qr35 v33 M34 => by
        unfold b_X10_walks_18
        refine qv_iload_n (pc := 18) g dX10_walks_18 rfl rfl ?_
        refine qv_iconst (v := 3) (pc := 19) g dX10_walks_19 (by decide) ?_
        refine qv_icmp_ge (pc := 20) (tgt := 81) g dX10_walks_20 (by decide) ?_ ?_
        · refine qv_lv [0, 1] rfl ?_
          exact qk32 _
        · refine qv_aload_n (pc := 23) g dX10_walks_23 rfl rfl ?_
          refine qv_iload_n (pc := 24) g dX10_walks_24 rfl rfl ?_
          refine qv_bipush (v := 15) (pc := 25) g dX10_walks_25 (by decide) ?_
          refine qv_aV (qv_cv (pc := 27) g (c_X10_loads (gl G) X (d + 3) T _ _ _ M34 ht) (qv_R hRm (by omega) (by decide)) ⟨Nat.zero_le _, Nat.zero_le _⟩ mw_X10_loads lk_RX10_157 im_X10_loads se_X10_loads (by decide) rfl ht pd_X10_loads rfl (Nat.le_of_ble_eq_true rfl) dX10_walks_27) (fun M36 => ?_)
          refine qv_aload_n (pc := 30) g dX10_walks_30 rfl rfl ?_
          refine qv_bipush (v := 15) (pc := 31) g dX10_walks_31 (by decide) ?_
          refine qv_bipush (v := 15) (pc := 33) g dX10_walks_33 (by decide) ?_
          refine qv_iconst (v := 4) (pc := 35) g dX10_walks_35 (by decide) ?_
          refine qv_iload_n (pc := 36) g dX10_walks_36 rfl rfl ?_
          refine qv_join (fun (k38 : Int32 → Option qv_Mem) => ∀ (v37 : Int32), qv_V G X 3 (qv_QM G X T qv_eV (0, 0)) T (0, 0) 54 [(0, .ref (X.2.2.2 + t)), (1, .int v27), (2, .int v33)] [.int v37, .int 4, .int 15, .int 15, .ref (X.2.2.2 + t)] M36 (k38 v37)) (fun v37 => ?_) (fun k38 qk38 => ?_)
          · refine qv_iadd (pc := 54) g dX10_walks_54 ?_
            refine qv_aV (qv_cv (pc := 55) g (c_X10_product (gl G) X d T _ _ _ _ M36 ht) (qv_R hRm (by omega) (by decide)) ⟨Nat.zero_le _, Nat.zero_le _⟩ mw_X10_product lk_RX10_132 im_X10_product se_X10_product (by decide) rfl ht pd_X10_product rfl (Nat.le_of_ble_eq_true rfl) dX10_walks_55) (fun M39 => ?_)
            refine qv_aload_n (pc := 58) g dX10_walks_58 rfl rfl ?_
            refine qv_bipush (v := 15) (pc := 59) g dX10_walks_59 (by decide) ?_
            refine qv_aI rfl (qv_cv (pc := 61) g (c_X10_cliffordOf (gl G) X (d + 3) T _ _ M39 ht) (qv_R hRm (by omega) (by decide)) ⟨Nat.zero_le _, Nat.zero_le _⟩ mw_X10_cliffordOf lk_RX10_160 im_X10_cliffordOf se_X10_cliffordOf (by decide) rfl ht pd_X10_cliffordOf rfl (Nat.le_of_ble_eq_true rfl) dX10_walks_61) (fun v40 => ?_)
            refine qv_bipush (v := (-2)) (pc := 64) g dX10_walks_64 (by decide) ?_
            refine qv_join (fun (k42 : qv_Mem → Option qv_Mem) => ∀ (M41 : qv_Mem), qv_V G X 3 (qv_QM G X T qv_eV (0, 0)) T (0, 0) 75 [(0, .ref (X.2.2.2 + t)), (1, .int v27), (2, .int v33)] [] M41 (k42 M41)) (fun M41 => ?_) (fun k42 qk42 => ?_)
            · refine qv_iinc (pc := 75) (v := (v33 + 1)) (lv1 := [(2, .int (v33 + 1)), (0, .ref (X.2.2.2 + t)), (1, .int v27)]) g dX10_walks_75 rfl rfl (by decide) rfl ?_
              refine qv_goto (pc := 78) (tgt := 18) g dX10_walks_78 (by decide) ?_
              refine qv_lv [1, 2, 0] rfl ?_
              exact qr35 _ _
            refine qv_icmp_ne (pc := 66) (tgt := 75) g dX10_walks_66 (by decide) ?_ ?_
            · exact qk42 _
            · refine qv_aload_n (pc := 69) g dX10_walks_69 rfl rfl ?_
              refine qv_bipush (v := 15) (pc := 70) g dX10_walks_70 (by decide) ?_
              refine qv_aV (qv_cv (pc := 72) g (c_X10_saves (gl G) X (d + 3) T _ _ M39 ht) (qv_R hRm (by omega) (by decide)) ⟨Nat.zero_le _, Nat.zero_le _⟩ mw_X10_saves lk_RX10_154 im_X10_saves se_X10_saves (by decide) rfl ht pd_X10_saves rfl (Nat.le_of_ble_eq_true rfl) dX10_walks_72) (fun M43 => ?_)
              exact qk42 _
          refine qv_if_ne (pc := 37) (tgt := 44) g dX10_walks_37 (by decide) ?_ ?_
          · refine qv_iload_n (pc := 44) g dX10_walks_44 rfl rfl ?_
            refine qv_iconst (v := 1) (pc := 45) g dX10_walks_45 (by decide) ?_
            refine qv_icmp_ne (pc := 46) (tgt := 53) g dX10_walks_46 (by decide) ?_ ?_
            · refine qv_iconst (v := 5) (pc := 53) g dX10_walks_53 (by decide) ?_
              exact qk38 _
            · refine qv_iconst (v := 2) (pc := 49) g dX10_walks_49 (by decide) ?_
              refine qv_goto (pc := 50) (tgt := 54) g dX10_walks_50 (by decide) ?_
              exact qk38 _
          · refine qv_iconst (v := 0) (pc := 40) g dX10_walks_40 (by decide) ?_
            refine qv_goto (pc := 41) (tgt := 54) g dX10_walks_41 (by decide) ?_
            exact qk38 _) _ _ _) _ _ _

set_option maxHeartbeats 4000000 in
set_option maxRecDepth 100000 in
theorem c_X10_isIn (l : Launch) (X : qv_X) (d : Nat) (T : List qv_Ent) (p0 : Int64) (p1 : Int64) (p2 : Int64) (M : qv_Mem)  : qv_Ok l X yX10_isIn cX10_isIn 6 (some .boolean) (d) T M [.long p0, .long p1, .long p2] (qv_eI M) (f_X10_isIn p0 p1 p2) := by
  refine qv_mk (lv := [(0, .long p0), (2, .long p1), (4, .long p2)]) (by decide) (Nat.le_of_ble_eq_true rfl) rfl (fun G hG hRm g hr => ?_)
  have g : qv_ok G X cX10_isIn RX10 6 := g
  unfold f_X10_isIn
  refine qv_lload_n (pc := 0) g dX10_isIn_0 rfl rfl ?_
  refine qv_lload_n (pc := 1) g dX10_isIn_1 rfl rfl ?_
  refine qv_lcmp (pc := 2) g dX10_isIn_2 ?_
  refine qv_if_lt (pc := 3) (tgt := 17) g dX10_isIn_3 (by decide) ?_ ?_
  · refine qv_iconst (v := 0) (pc := 17) g dX10_isIn_17 (by decide) ?_
    exact qv_zret (pc := 18) g hr rfl rfl dX10_isIn_18
  · refine qv_lload_n (pc := 6) g dX10_isIn_6 rfl rfl ?_
    refine qv_lload (pc := 7) g dX10_isIn_7 rfl ?_
    refine qv_lcmp (pc := 9) g dX10_isIn_9 ?_
    refine qv_if_gt (pc := 10) (tgt := 17) g dX10_isIn_10 (by decide) ?_ ?_
    · refine qv_iconst (v := 0) (pc := 17) g dX10_isIn_17 (by decide) ?_
      exact qv_zret (pc := 18) g hr rfl rfl dX10_isIn_18
    · refine qv_iconst (v := 1) (pc := 13) g dX10_isIn_13 (by decide) ?_
      refine qv_goto (pc := 14) (tgt := 18) g dX10_isIn_14 (by decide) ?_
      exact qv_zret (pc := 18) g hr rfl rfl dX10_isIn_18

set_option maxHeartbeats 4000000 in
set_option maxRecDepth 100000 in
theorem c_X10_areSame (l : Launch) (X : qv_X) (d : Nat) (T : List qv_Ent) (t : Nat) (p1 : Int32) (p2 : Int32) (M : qv_Mem) {nt : Nat} (ht : qv_is (nt + 1) T 10 29 t) : qv_Ok l X yX10_areSame cX10_areSame 5 (some .boolean) (d) T M [.ref (X.2.2.2 + t), .int p1, .int p2] (qv_eI M) (f_X10_areSame T t p1 p2 M) := by
  refine qv_mk (lv := [(0, .ref (X.2.2.2 + t)), (1, .int p1), (2, .int p2)]) (by decide) (Nat.le_of_ble_eq_true rfl) rfl (fun G hG hRm g hr => ?_)
  have g : qv_ok G X cX10_areSame RX10 5 := g
  unfold f_X10_areSame
  refine qv_iconst (v := 1) (pc := 0) g dX10_areSame_0 (by decide) ?_
  refine qv_istore_n (pc := 1) (lv1 := [(3, .int 1), (0, .ref (X.2.2.2 + t)), (1, .int p1), (2, .int p2)]) g dX10_areSame_1 rfl (by decide) rfl ?_
  refine qv_iconst (v := 0) (pc := 2) g dX10_areSame_2 (by decide) ?_
  refine qv_istore (pc := 3) (lv1 := [(4, .int 0), (3, .int 1), (0, .ref (X.2.2.2 + t)), (1, .int p1), (2, .int p2)]) g dX10_areSame_3 (by decide) rfl ?_
  refine qv_join (fun (k2 : Int32 → Option Int32) => ∀ (v1 : Int32), qv_V G X 5 (qv_QM G X T (qv_eI M) (0, 0)) T (0, 0) 54 [(3, .int v1)] [] M (k2 v1)) (fun v1 => ?_) (fun k2 qk2 => ?_)
  · refine qv_iload_n (pc := 54) g dX10_areSame_54 rfl rfl ?_
    exact qv_zretg (pc := 55) g hr rfl dX10_areSame_55
  refine qv_lv [2, 3, 4, 1, 0] rfl ?_
  exact qv_L2 (Vh := fun (v3 : Int32) (v4 : Int32) o => qv_V G X 5 (qv_QM G X T (qv_eI M) (0, 0)) T (0, 0) 5 [(0, .ref (X.2.2.2 + t)), (1, .int p1), (2, .int p2), (3, .int v3), (4, .int v4)] [] M o) (fun _ _ => qv_none) (fun r5 qr5 v3 v4 => by
    unfold b_X10_areSame_5
    refine qv_iload (pc := 5) g dX10_areSame_5 rfl ?_
    refine qv_bipush (v := 17) (pc := 7) g dX10_areSame_7 (by decide) ?_
    refine qv_icmp_ge (pc := 9) (tgt := 54) g dX10_areSame_9 (by decide) ?_ ?_
    · refine qv_lv [3] rfl ?_
      exact qk2 _
    · refine qv_iload_n (pc := 12) g dX10_areSame_12 rfl rfl ?_
      refine qv_aload_n (pc := 13) g dX10_areSame_13 rfl rfl ?_
      have h1 : qv_is _ T 21 340 (qv_rf T t 0) := ht.to 0 (by decide) (by decide) rfl
      refine qv_getr (pc := 14) g fw_RX10_11 ht (by decide) (by decide) rfl dX10_areSame_14 ?_
      refine qv_bipush (v := 17) (pc := 17) g dX10_areSame_17 (by decide) ?_
      refine qv_iload_n (pc := 19) g dX10_areSame_19 rfl rfl ?_
      refine qv_imul (pc := 20) g dX10_areSame_20 ?_
      refine qv_iload (pc := 21) g dX10_areSame_21 rfl ?_
      refine qv_iadd (pc := 23) g dX10_areSame_23 ?_
      refine qv_lald (pc := 24) g h1 dX10_areSame_24 (fun v6 => ?_)
      refine qv_aload_n (pc := 25) g dX10_areSame_25 rfl rfl ?_
      refine qv_getr (pc := 26) g fw_RX10_11 ht (by decide) (by decide) rfl dX10_areSame_26 ?_
      refine qv_bipush (v := 17) (pc := 29) g dX10_areSame_29 (by decide) ?_
      refine qv_iload_n (pc := 31) g dX10_areSame_31 rfl rfl ?_
      refine qv_imul (pc := 32) g dX10_areSame_32 ?_
      refine qv_iload (pc := 33) g dX10_areSame_33 rfl ?_
      refine qv_iadd (pc := 35) g dX10_areSame_35 ?_
      refine qv_lald (pc := 36) g h1 dX10_areSame_36 (fun v7 => ?_)
      refine qv_lcmp (pc := 37) g dX10_areSame_37 ?_
      refine qv_join (fun (k9 : Int32 → Option Int32) => ∀ (v8 : Int32), qv_V G X 5 (qv_QM G X T (qv_eI M) (0, 0)) T (0, 0) 46 [(0, .ref (X.2.2.2 + t)), (1, .int p1), (2, .int p2), (4, .int v4)] [.int v8, .int v3] M (k9 v8)) (fun v8 => ?_) (fun k9 qk9 => ?_)
      · refine qv_iand (pc := 46) g dX10_areSame_46 ?_
        refine qv_istore_n (pc := 47) (lv1 := [(3, .int (v3 &&& v8)), (0, .ref (X.2.2.2 + t)), (1, .int p1), (2, .int p2), (4, .int v4)]) g dX10_areSame_47 rfl (by decide) rfl ?_
        refine qv_iinc (pc := 48) (v := (v4 + 1)) (lv1 := [(4, .int (v4 + 1)), (3, .int (v3 &&& v8)), (0, .ref (X.2.2.2 + t)), (1, .int p1), (2, .int p2)]) g dX10_areSame_48 rfl rfl (by decide) rfl ?_
        refine qv_goto (pc := 51) (tgt := 5) g dX10_areSame_51 (by decide) ?_
        refine qv_lv [2, 3, 4, 1, 0] rfl ?_
        exact qr5 _ _
      refine qv_if_ne (pc := 38) (tgt := 45) g dX10_areSame_38 (by decide) ?_ ?_
      · refine qv_iconst (v := 0) (pc := 45) g dX10_areSame_45 (by decide) ?_
        refine qv_lv [0, 1, 2, 4] rfl ?_
        exact qk9 _
      · refine qv_iconst (v := 1) (pc := 41) g dX10_areSame_41 (by decide) ?_
        refine qv_goto (pc := 42) (tgt := 46) g dX10_areSame_42 (by decide) ?_
        refine qv_lv [0, 1, 2, 4] rfl ?_
        exact qk9 _) _ _ _

set_option maxHeartbeats 4000000 in
set_option maxRecDepth 100000 in
theorem c_X10_isRegister (l : Launch) (X : qv_X) (d : Nat) (T : List qv_Ent) (p0 : Int32) (M : qv_Mem)  : qv_Ok l X yX10_isRegister cX10_isRegister 1 (some .boolean) (d + 1) T M [.int p0] (qv_eI M) (f_X10_isRegister p0) := by
  refine qv_mk (lv := [(0, .int p0)]) (by decide) (Nat.le_of_ble_eq_true rfl) rfl (fun G hG hRm g hr => ?_)
  have g : qv_ok G X cX10_isRegister RX10 1 := g
  unfold f_X10_isRegister
  refine qv_iload_n (pc := 0) g dX10_isRegister_0 rfl rfl ?_
  refine qv_i2l (pc := 1) g dX10_isRegister_1 ?_
  refine qv_lconst (v := 0) (pc := 2) g dX10_isRegister_2 (by decide) ?_
  refine qv_ldc2 (pc := 3) g kl_RX10_118 dX10_isRegister_3 ?_
  refine qv_aI rfl (qv_cs (pc := 6) g (c_X10_isIn (gl G) X d T _ _ _ M) (qv_R hRm (by omega) (by decide)) ⟨Nat.zero_le _, Nat.zero_le _⟩ mw_X10_isIn lk_RX10_120 st_X10_isIn pd_X10_isIn rfl (Nat.le_of_ble_eq_true rfl) dX10_isRegister_6) (fun v1 => ?_)
  exact qv_zretg (pc := 9) g hr rfl dX10_isRegister_9

set_option maxHeartbeats 4000000 in
set_option maxRecDepth 100000 in
theorem c_X10_isGate (l : Launch) (X : qv_X) (d : Nat) (T : List qv_Ent) (p0 : Int32) (M : qv_Mem)  : qv_Ok l X yX10_isGate cX10_isGate 1 (some .boolean) (d + 1) T M [.int p0] (qv_eI M) (f_X10_isGate p0) := by
  refine qv_mk (lv := [(0, .int p0)]) (by decide) (Nat.le_of_ble_eq_true rfl) rfl (fun G hG hRm g hr => ?_)
  have g : qv_ok G X cX10_isGate RX10 1 := g
  unfold f_X10_isGate
  refine qv_iload_n (pc := 0) g dX10_isGate_0 rfl rfl ?_
  refine qv_i2l (pc := 1) g dX10_isGate_1 ?_
  refine qv_lconst (v := 0) (pc := 2) g dX10_isGate_2 (by decide) ?_
  refine qv_ldc2 (pc := 3) g kl_RX10_124 dX10_isGate_3 ?_
  refine qv_aI rfl (qv_cs (pc := 6) g (c_X10_isIn (gl G) X d T _ _ _ M) (qv_R hRm (by omega) (by decide)) ⟨Nat.zero_le _, Nat.zero_le _⟩ mw_X10_isIn lk_RX10_120 st_X10_isIn pd_X10_isIn rfl (Nat.le_of_ble_eq_true rfl) dX10_isGate_6) (fun v1 => ?_)
  exact qv_zretg (pc := 9) g hr rfl dX10_isGate_9

set_option maxHeartbeats 4000000 in
set_option maxRecDepth 100000 in
theorem c_X10_one (l : Launch) (X : qv_X) (d : Nat) (T : List qv_Ent) (t : Nat) (p1 : Int32) (M : qv_Mem) {nt : Nat} (ht : qv_is (nt + 1) T 10 29 t) : qv_Ok l X yX10_one cX10_one 3 (some .int) (d + 2) T M [.ref (X.2.2.2 + t), .int p1] qv_eIM (f_X10_one T t p1 M) := by
  refine qv_mk (lv := [(0, .ref (X.2.2.2 + t)), (1, .int p1)]) (by decide) (Nat.le_of_ble_eq_true rfl) rfl (fun G hG hRm g hr => ?_)
  have g : qv_ok G X cX10_one RX10 3 := g
  unfold f_X10_one
  refine qv_iload_n (pc := 0) g dX10_one_0 rfl rfl ?_
  refine qv_aI rfl (qv_cs (pc := 1) g (c_X10_isRegister (gl G) X d T _ M) (qv_R hRm (by omega) (by decide)) ⟨Nat.zero_le _, Nat.zero_le _⟩ mw_X10_isRegister lk_RX10_126 st_X10_isRegister pd_X10_isRegister rfl (Nat.le_of_ble_eq_true rfl) dX10_one_1) (fun v1 => ?_)
  refine qv_if_ne (pc := 4) (tgt := 9) g dX10_one_4 (by decide) ?_ ?_
  · refine qv_aload_n (pc := 9) g dX10_one_9 rfl rfl ?_
    refine qv_iload_n (pc := 10) g dX10_one_10 rfl rfl ?_
    refine qv_aI rfl (qv_cv (pc := 11) g (c_X10_eOf (gl G) X (d + 1) T _ _ M ht) (qv_R hRm (by omega) (by decide)) ⟨Nat.zero_le _, Nat.zero_le _⟩ mw_X10_eOf lk_RX10_98 im_X10_eOf se_X10_eOf (by decide) rfl ht pd_X10_eOf rfl (Nat.le_of_ble_eq_true rfl) dX10_one_11) (fun v2 => ?_)
    refine qv_istore_n (pc := 14) (lv1 := [(2, .int v2), (0, .ref (X.2.2.2 + t)), (1, .int p1)]) g dX10_one_14 rfl (by decide) rfl ?_
    refine qv_aload_n (pc := 15) g dX10_one_15 rfl rfl ?_
    refine qv_bipush (v := 14) (pc := 16) g dX10_one_16 (by decide) ?_
    refine qv_iload_n (pc := 18) g dX10_one_18 rfl rfl ?_
    refine qv_aV (qv_cv (pc := 19) g (c_X10_copies (gl G) X (d + 1) T _ _ _ M ht) (qv_R hRm (by omega) (by decide)) ⟨Nat.zero_le _, Nat.zero_le _⟩ mw_X10_copies lk_RX10_83 im_X10_copies se_X10_copies (by decide) rfl ht pd_X10_copies rfl (Nat.le_of_ble_eq_true rfl) dX10_one_19) (fun M3 => ?_)
    refine qv_iload_n (pc := 22) g dX10_one_22 rfl rfl ?_
    exact qv_iret (pc := 23) g hr rfl dX10_one_23
  · refine qv_iconst (v := (-1)) (pc := 7) g dX10_one_7 (by decide) ?_
    exact qv_iret (pc := 8) g hr rfl dX10_one_8

set_option maxHeartbeats 4000000 in
set_option maxRecDepth 100000 in
theorem c_X10_comes (l : Launch) (X : qv_X) (d : Nat) (T : List qv_Ent) (t : Nat) (p1 : Int32) (M : qv_Mem) {nt : Nat} (ht : qv_is (nt + 1) T 10 29 t) : qv_Ok l X yX10_comes cX10_comes 2 (some .int) (d + 1) T M [.ref (X.2.2.2 + t), .int p1] qv_eIM (f_X10_comes T t p1 M) := by
  refine qv_mk (lv := [(0, .ref (X.2.2.2 + t)), (1, .int p1)]) (by decide) (Nat.le_of_ble_eq_true rfl) rfl (fun G hG hRm g hr => ?_)
  have g : qv_ok G X cX10_comes RX10 2 := g
  unfold f_X10_comes
  refine qv_aload_n (pc := 0) g dX10_comes_0 rfl rfl ?_
  refine qv_bipush (v := 15) (pc := 1) g dX10_comes_1 (by decide) ?_
  refine qv_aI rfl (qv_cv (pc := 3) g (c_X10_eOf (gl G) X d T _ _ M ht) (qv_R hRm (by omega) (by decide)) ⟨Nat.zero_le _, Nat.zero_le _⟩ mw_X10_eOf lk_RX10_98 im_X10_eOf se_X10_eOf (by decide) rfl ht pd_X10_eOf rfl (Nat.le_of_ble_eq_true rfl) dX10_comes_3) (fun v1 => ?_)
  refine qv_bipush (v := 40) (pc := 6) g dX10_comes_6 (by decide) ?_
  refine qv_icmp_le (pc := 8) (tgt := 14) g dX10_comes_8 (by decide) ?_ ?_
  · refine qv_aload_n (pc := 14) g dX10_comes_14 rfl rfl ?_
    refine qv_bipush (v := 15) (pc := 15) g dX10_comes_15 (by decide) ?_
    refine qv_iload_n (pc := 17) g dX10_comes_17 rfl rfl ?_
    refine qv_aV (qv_cv (pc := 18) g (c_X10_copies (gl G) X d T _ _ _ M ht) (qv_R hRm (by omega) (by decide)) ⟨Nat.zero_le _, Nat.zero_le _⟩ mw_X10_copies lk_RX10_83 im_X10_copies se_X10_copies (by decide) rfl ht pd_X10_copies rfl (Nat.le_of_ble_eq_true rfl) dX10_comes_18) (fun M2 => ?_)
    refine qv_aload_n (pc := 21) g dX10_comes_21 rfl rfl ?_
    refine qv_iload_n (pc := 22) g dX10_comes_22 rfl rfl ?_
    refine qv_aI rfl (qv_cv (pc := 23) g (c_X10_eOf (gl G) X d T _ _ M2 ht) (qv_R hRm (by omega) (by decide)) ⟨Nat.zero_le _, Nat.zero_le _⟩ mw_X10_eOf lk_RX10_98 im_X10_eOf se_X10_eOf (by decide) rfl ht pd_X10_eOf rfl (Nat.le_of_ble_eq_true rfl) dX10_comes_23) (fun v3 => ?_)
    exact qv_iret (pc := 26) g hr rfl dX10_comes_26
  · refine qv_bipush (v := (-5)) (pc := 11) g dX10_comes_11 (by decide) ?_
    exact qv_iret (pc := 13) g hr rfl dX10_comes_13

set_option maxHeartbeats 4000000 in
set_option maxRecDepth 100000 in
theorem c_X10_gate (l : Launch) (X : qv_X) (d : Nat) (T : List qv_Ent) (t : Nat) (p1 : Int32) (p2 : Int32) (M : qv_Mem) {nt : Nat} (ht : qv_is (nt + 1) T 10 29 t) : qv_Ok l X yX10_gate cX10_gate 3 (some .int) (d + 4) T M [.ref (X.2.2.2 + t), .int p1, .int p2] qv_eIM (f_X10_gate T t p1 p2 M) := by
  refine qv_mk (lv := [(0, .ref (X.2.2.2 + t)), (1, .int p1), (2, .int p2)]) (by decide) (Nat.le_of_ble_eq_true rfl) rfl (fun G hG hRm g hr => ?_)
  have g : qv_ok G X cX10_gate RX10 3 := g
  unfold f_X10_gate
  refine qv_iload_n (pc := 0) g dX10_gate_0 rfl rfl ?_
  refine qv_aI rfl (qv_cs (pc := 1) g (c_X10_isRegister (gl G) X (d + 2) T _ M) (qv_R hRm (by omega) (by decide)) ⟨Nat.zero_le _, Nat.zero_le _⟩ mw_X10_isRegister lk_RX10_126 st_X10_isRegister pd_X10_isRegister rfl (Nat.le_of_ble_eq_true rfl) dX10_gate_1) (fun v1 => ?_)
  refine qv_if_eq (pc := 4) (tgt := 14) g dX10_gate_4 (by decide) ?_ ?_
  · refine qv_iconst (v := (-1)) (pc := 14) g dX10_gate_14 (by decide) ?_
    exact qv_iret (pc := 15) g hr rfl dX10_gate_15
  · refine qv_iload_n (pc := 7) g dX10_gate_7 rfl rfl ?_
    refine qv_aI rfl (qv_cs (pc := 8) g (c_X10_isGate (gl G) X (d + 2) T _ M) (qv_R hRm (by omega) (by decide)) ⟨Nat.zero_le _, Nat.zero_le _⟩ mw_X10_isGate lk_RX10_129 st_X10_isGate pd_X10_isGate rfl (Nat.le_of_ble_eq_true rfl) dX10_gate_8) (fun v2 => ?_)
    refine qv_if_ne (pc := 11) (tgt := 16) g dX10_gate_11 (by decide) ?_ ?_
    · refine qv_aload_n (pc := 16) g dX10_gate_16 rfl rfl ?_
      refine qv_bipush (v := 15) (pc := 17) g dX10_gate_17 (by decide) ?_
      refine qv_iload_n (pc := 19) g dX10_gate_19 rfl rfl ?_
      refine qv_iconst (v := 4) (pc := 20) g dX10_gate_20 (by decide) ?_
      refine qv_iload_n (pc := 21) g dX10_gate_21 rfl rfl ?_
      refine qv_iadd (pc := 22) g dX10_gate_22 ?_
      refine qv_aV (qv_cv (pc := 23) g (c_X10_product (gl G) X d T _ _ _ _ M ht) (qv_R hRm (by omega) (by decide)) ⟨Nat.zero_le _, Nat.zero_le _⟩ mw_X10_product lk_RX10_132 im_X10_product se_X10_product (by decide) rfl ht pd_X10_product rfl (Nat.le_of_ble_eq_true rfl) dX10_gate_23) (fun M3 => ?_)
      refine qv_aload_n (pc := 26) g dX10_gate_26 rfl rfl ?_
      refine qv_iload_n (pc := 27) g dX10_gate_27 rfl rfl ?_
      refine qv_aIM (qv_cv (pc := 28) g (c_X10_comes (gl G) X (d + 2) T _ _ M3 ht) (qv_R hRm (by omega) (by decide)) ⟨Nat.zero_le _, Nat.zero_le _⟩ mw_X10_comes lk_RX10_135 im_X10_comes se_X10_comes (by decide) rfl ht pd_X10_comes rfl (Nat.le_of_ble_eq_true rfl) dX10_gate_28) (fun v4 M5 => ?_)
      exact qv_iret (pc := 31) g hr rfl dX10_gate_31
    · refine qv_iconst (v := (-1)) (pc := 14) g dX10_gate_14 (by decide) ?_
      exact qv_iret (pc := 15) g hr rfl dX10_gate_15

set_option maxHeartbeats 4000000 in
set_option maxRecDepth 100000 in
theorem c_X10_ahead (l : Launch) (X : qv_X) (d : Nat) (T : List qv_Ent) (t : Nat) (p1 : Int32) (p2 : Int32) (M : qv_Mem) {nt : Nat} (ht : qv_is (nt + 1) T 10 29 t) : qv_Ok l X yX10_ahead cX10_ahead 3 (some .int) (d + 4) T M [.ref (X.2.2.2 + t), .int p1, .int p2] qv_eIM (f_X10_ahead T t p1 p2 M) := by
  refine qv_mk (lv := [(0, .ref (X.2.2.2 + t)), (1, .int p1), (2, .int p2)]) (by decide) (Nat.le_of_ble_eq_true rfl) rfl (fun G hG hRm g hr => ?_)
  have g : qv_ok G X cX10_ahead RX10 3 := g
  unfold f_X10_ahead
  refine qv_iload_n (pc := 0) g dX10_ahead_0 rfl rfl ?_
  refine qv_aI rfl (qv_cs (pc := 1) g (c_X10_isRegister (gl G) X (d + 2) T _ M) (qv_R hRm (by omega) (by decide)) ⟨Nat.zero_le _, Nat.zero_le _⟩ mw_X10_isRegister lk_RX10_126 st_X10_isRegister pd_X10_isRegister rfl (Nat.le_of_ble_eq_true rfl) dX10_ahead_1) (fun v1 => ?_)
  refine qv_if_eq (pc := 4) (tgt := 14) g dX10_ahead_4 (by decide) ?_ ?_
  · refine qv_iconst (v := (-1)) (pc := 14) g dX10_ahead_14 (by decide) ?_
    exact qv_iret (pc := 15) g hr rfl dX10_ahead_15
  · refine qv_iload_n (pc := 7) g dX10_ahead_7 rfl rfl ?_
    refine qv_aI rfl (qv_cs (pc := 8) g (c_X10_isGate (gl G) X (d + 2) T _ M) (qv_R hRm (by omega) (by decide)) ⟨Nat.zero_le _, Nat.zero_le _⟩ mw_X10_isGate lk_RX10_129 st_X10_isGate pd_X10_isGate rfl (Nat.le_of_ble_eq_true rfl) dX10_ahead_8) (fun v2 => ?_)
    refine qv_if_ne (pc := 11) (tgt := 16) g dX10_ahead_11 (by decide) ?_ ?_
    · refine qv_aload_n (pc := 16) g dX10_ahead_16 rfl rfl ?_
      refine qv_bipush (v := 15) (pc := 17) g dX10_ahead_17 (by decide) ?_
      refine qv_iconst (v := 4) (pc := 19) g dX10_ahead_19 (by decide) ?_
      refine qv_iload_n (pc := 20) g dX10_ahead_20 rfl rfl ?_
      refine qv_iadd (pc := 21) g dX10_ahead_21 ?_
      refine qv_iload_n (pc := 22) g dX10_ahead_22 rfl rfl ?_
      refine qv_aV (qv_cv (pc := 23) g (c_X10_product (gl G) X d T _ _ _ _ M ht) (qv_R hRm (by omega) (by decide)) ⟨Nat.zero_le _, Nat.zero_le _⟩ mw_X10_product lk_RX10_132 im_X10_product se_X10_product (by decide) rfl ht pd_X10_product rfl (Nat.le_of_ble_eq_true rfl) dX10_ahead_23) (fun M3 => ?_)
      refine qv_aload_n (pc := 26) g dX10_ahead_26 rfl rfl ?_
      refine qv_iload_n (pc := 27) g dX10_ahead_27 rfl rfl ?_
      refine qv_aIM (qv_cv (pc := 28) g (c_X10_comes (gl G) X (d + 2) T _ _ M3 ht) (qv_R hRm (by omega) (by decide)) ⟨Nat.zero_le _, Nat.zero_le _⟩ mw_X10_comes lk_RX10_135 im_X10_comes se_X10_comes (by decide) rfl ht pd_X10_comes rfl (Nat.le_of_ble_eq_true rfl) dX10_ahead_28) (fun v4 M5 => ?_)
      exact qv_iret (pc := 31) g hr rfl dX10_ahead_31
    · refine qv_iconst (v := (-1)) (pc := 14) g dX10_ahead_14 (by decide) ?_
      exact qv_iret (pc := 15) g hr rfl dX10_ahead_15

set_option maxHeartbeats 4000000 in
set_option maxRecDepth 100000 in
theorem c_X10_times (l : Launch) (X : qv_X) (d : Nat) (T : List qv_Ent) (t : Nat) (p1 : Int32) (p2 : Int32) (p3 : Int32) (M : qv_Mem) {nt : Nat} (ht : qv_is (nt + 1) T 10 29 t) : qv_Ok l X yX10_times cX10_times 4 (some .int) (d + 4) T M [.ref (X.2.2.2 + t), .int p1, .int p2, .int p3] qv_eIM (f_X10_times T t p1 p2 p3 M) := by
  refine qv_mk (lv := [(0, .ref (X.2.2.2 + t)), (1, .int p1), (2, .int p2), (3, .int p3)]) (by decide) (Nat.le_of_ble_eq_true rfl) rfl (fun G hG hRm g hr => ?_)
  have g : qv_ok G X cX10_times RX10 4 := g
  unfold f_X10_times
  refine qv_iload_n (pc := 0) g dX10_times_0 rfl rfl ?_
  refine qv_aI rfl (qv_cs (pc := 1) g (c_X10_isRegister (gl G) X (d + 2) T _ M) (qv_R hRm (by omega) (by decide)) ⟨Nat.zero_le _, Nat.zero_le _⟩ mw_X10_isRegister lk_RX10_126 st_X10_isRegister pd_X10_isRegister rfl (Nat.le_of_ble_eq_true rfl) dX10_times_1) (fun v1 => ?_)
  refine qv_if_eq (pc := 4) (tgt := 21) g dX10_times_4 (by decide) ?_ ?_
  · refine qv_iconst (v := (-1)) (pc := 21) g dX10_times_21 (by decide) ?_
    exact qv_iret (pc := 22) g hr rfl dX10_times_22
  · refine qv_iload_n (pc := 7) g dX10_times_7 rfl rfl ?_
    refine qv_aI rfl (qv_cs (pc := 8) g (c_X10_isRegister (gl G) X (d + 2) T _ M) (qv_R hRm (by omega) (by decide)) ⟨Nat.zero_le _, Nat.zero_le _⟩ mw_X10_isRegister lk_RX10_126 st_X10_isRegister pd_X10_isRegister rfl (Nat.le_of_ble_eq_true rfl) dX10_times_8) (fun v2 => ?_)
    refine qv_if_eq (pc := 11) (tgt := 21) g dX10_times_11 (by decide) ?_ ?_
    · refine qv_iconst (v := (-1)) (pc := 21) g dX10_times_21 (by decide) ?_
      exact qv_iret (pc := 22) g hr rfl dX10_times_22
    · refine qv_iload_n (pc := 14) g dX10_times_14 rfl rfl ?_
      refine qv_aI rfl (qv_cs (pc := 15) g (c_X10_isRegister (gl G) X (d + 2) T _ M) (qv_R hRm (by omega) (by decide)) ⟨Nat.zero_le _, Nat.zero_le _⟩ mw_X10_isRegister lk_RX10_126 st_X10_isRegister pd_X10_isRegister rfl (Nat.le_of_ble_eq_true rfl) dX10_times_15) (fun v3 => ?_)
      refine qv_if_ne (pc := 18) (tgt := 23) g dX10_times_18 (by decide) ?_ ?_
      · refine qv_aload_n (pc := 23) g dX10_times_23 rfl rfl ?_
        refine qv_bipush (v := 15) (pc := 24) g dX10_times_24 (by decide) ?_
        refine qv_iload_n (pc := 26) g dX10_times_26 rfl rfl ?_
        refine qv_iload_n (pc := 27) g dX10_times_27 rfl rfl ?_
        refine qv_aV (qv_cv (pc := 28) g (c_X10_product (gl G) X d T _ _ _ _ M ht) (qv_R hRm (by omega) (by decide)) ⟨Nat.zero_le _, Nat.zero_le _⟩ mw_X10_product lk_RX10_132 im_X10_product se_X10_product (by decide) rfl ht pd_X10_product rfl (Nat.le_of_ble_eq_true rfl) dX10_times_28) (fun M4 => ?_)
        refine qv_aload_n (pc := 31) g dX10_times_31 rfl rfl ?_
        refine qv_iload_n (pc := 32) g dX10_times_32 rfl rfl ?_
        refine qv_aIM (qv_cv (pc := 33) g (c_X10_comes (gl G) X (d + 2) T _ _ M4 ht) (qv_R hRm (by omega) (by decide)) ⟨Nat.zero_le _, Nat.zero_le _⟩ mw_X10_comes lk_RX10_135 im_X10_comes se_X10_comes (by decide) rfl ht pd_X10_comes rfl (Nat.le_of_ble_eq_true rfl) dX10_times_33) (fun v5 M6 => ?_)
        exact qv_iret (pc := 36) g hr rfl dX10_times_36
      · refine qv_iconst (v := (-1)) (pc := 21) g dX10_times_21 (by decide) ?_
        exact qv_iret (pc := 22) g hr rfl dX10_times_22

set_option maxHeartbeats 4000000 in
set_option maxRecDepth 100000 in
theorem c_X10_turn (l : Launch) (X : qv_X) (d : Nat) (T : List qv_Ent) (t : Nat) (p1 : Int32) (M : qv_Mem) {nt : Nat} (ht : qv_is (nt + 1) T 10 29 t) : qv_Ok l X yX10_turn cX10_turn 2 (some .int) (d + 2) T M [.ref (X.2.2.2 + t), .int p1] qv_eIM (f_X10_turn T t p1 M) := by
  refine qv_mk (lv := [(0, .ref (X.2.2.2 + t)), (1, .int p1)]) (by decide) (Nat.le_of_ble_eq_true rfl) rfl (fun G hG hRm g hr => ?_)
  have g : qv_ok G X cX10_turn RX10 2 := g
  unfold f_X10_turn
  refine qv_iload_n (pc := 0) g dX10_turn_0 rfl rfl ?_
  refine qv_aI rfl (qv_cs (pc := 1) g (c_X10_isRegister (gl G) X d T _ M) (qv_R hRm (by omega) (by decide)) ⟨Nat.zero_le _, Nat.zero_le _⟩ mw_X10_isRegister lk_RX10_126 st_X10_isRegister pd_X10_isRegister rfl (Nat.le_of_ble_eq_true rfl) dX10_turn_1) (fun v1 => ?_)
  refine qv_if_ne (pc := 4) (tgt := 9) g dX10_turn_4 (by decide) ?_ ?_
  · refine qv_aload_n (pc := 9) g dX10_turn_9 rfl rfl ?_
    refine qv_iload_n (pc := 10) g dX10_turn_10 rfl rfl ?_
    refine qv_iload_n (pc := 11) g dX10_turn_11 rfl rfl ?_
    refine qv_aV (qv_cv (pc := 12) g (c_X10_turns (gl G) X d T _ _ _ M ht) (qv_R hRm (by omega) (by decide)) ⟨Nat.zero_le _, Nat.zero_le _⟩ mw_X10_turns lk_RX10_138 im_X10_turns se_X10_turns (by decide) rfl ht pd_X10_turns rfl (Nat.le_of_ble_eq_true rfl) dX10_turn_12) (fun M2 => ?_)
    refine qv_aload_n (pc := 15) g dX10_turn_15 rfl rfl ?_
    refine qv_iload_n (pc := 16) g dX10_turn_16 rfl rfl ?_
    refine qv_aI rfl (qv_cv (pc := 17) g (c_X10_eOf (gl G) X (d + 1) T _ _ M2 ht) (qv_R hRm (by omega) (by decide)) ⟨Nat.zero_le _, Nat.zero_le _⟩ mw_X10_eOf lk_RX10_98 im_X10_eOf se_X10_eOf (by decide) rfl ht pd_X10_eOf rfl (Nat.le_of_ble_eq_true rfl) dX10_turn_17) (fun v3 => ?_)
    exact qv_iret (pc := 20) g hr rfl dX10_turn_20
  · refine qv_iconst (v := (-1)) (pc := 7) g dX10_turn_7 (by decide) ?_
    exact qv_iret (pc := 8) g hr rfl dX10_turn_8

set_option maxHeartbeats 4000000 in
set_option maxRecDepth 100000 in
theorem c_X10_part (l : Launch) (X : qv_X) (d : Nat) (T : List qv_Ent) (t : Nat) (p1 : Int32) (p2 : Int32) (p3 : Int32) (p4 : Int32) (M : qv_Mem) {nt : Nat} (ht : qv_is (nt + 1) T 10 29 t) : qv_Ok l X yX10_part cX10_part 5 (some .long) (d + 2) T M [.ref (X.2.2.2 + t), .int p1, .int p2, .int p3, .int p4] (qv_eL M) (f_X10_part T t p1 p2 p3 p4 M) := by
  refine qv_mk (lv := [(0, .ref (X.2.2.2 + t)), (1, .int p1), (2, .int p2), (3, .int p3), (4, .int p4)]) (by decide) (Nat.le_of_ble_eq_true rfl) rfl (fun G hG hRm g hr => ?_)
  have g : qv_ok G X cX10_part RX10 5 := g
  unfold f_X10_part
  refine qv_iload_n (pc := 0) g dX10_part_0 rfl rfl ?_
  refine qv_aI rfl (qv_cs (pc := 1) g (c_X10_isRegister (gl G) X d T _ M) (qv_R hRm (by omega) (by decide)) ⟨Nat.zero_le _, Nat.zero_le _⟩ mw_X10_isRegister lk_RX10_126 st_X10_isRegister pd_X10_isRegister rfl (Nat.le_of_ble_eq_true rfl) dX10_part_1) (fun v1 => ?_)
  refine qv_join (fun (k2 : Unit → Option Int64) => ∀ (_ : Unit), qv_V G X 5 (qv_QM G X T (qv_eL M) (0, 0)) T (0, 0) 55 [] [] M (k2 ())) (fun _ => ?_) (fun k2 qk2 => ?_)
  · refine qv_ldc2 (pc := 55) g kl_RX10_141 dX10_part_55 ?_
    exact qv_lret (pc := 58) g hr rfl dX10_part_58
  refine qv_if_eq (pc := 4) (tgt := 55) g dX10_part_4 (by decide) ?_ ?_
  · refine qv_lv [] rfl ?_
    exact qk2 ()
  · refine qv_iload_n (pc := 7) g dX10_part_7 rfl rfl ?_
    refine qv_i2l (pc := 8) g dX10_part_8 ?_
    refine qv_lconst (v := 0) (pc := 9) g dX10_part_9 (by decide) ?_
    refine qv_lconst (v := 1) (pc := 10) g dX10_part_10 (by decide) ?_
    refine qv_aI rfl (qv_cs (pc := 11) g (c_X10_isIn (gl G) X (d + 1) T _ _ _ M) (qv_R hRm (by omega) (by decide)) ⟨Nat.zero_le _, Nat.zero_le _⟩ mw_X10_isIn lk_RX10_120 st_X10_isIn pd_X10_isIn rfl (Nat.le_of_ble_eq_true rfl) dX10_part_11) (fun v3 => ?_)
    refine qv_if_eq (pc := 14) (tgt := 55) g dX10_part_14 (by decide) ?_ ?_
    · refine qv_lv [] rfl ?_
      exact qk2 ()
    · refine qv_iload_n (pc := 17) g dX10_part_17 rfl rfl ?_
      refine qv_i2l (pc := 18) g dX10_part_18 ?_
      refine qv_lconst (v := 0) (pc := 19) g dX10_part_19 (by decide) ?_
      refine qv_lconst (v := 1) (pc := 20) g dX10_part_20 (by decide) ?_
      refine qv_aI rfl (qv_cs (pc := 21) g (c_X10_isIn (gl G) X (d + 1) T _ _ _ M) (qv_R hRm (by omega) (by decide)) ⟨Nat.zero_le _, Nat.zero_le _⟩ mw_X10_isIn lk_RX10_120 st_X10_isIn pd_X10_isIn rfl (Nat.le_of_ble_eq_true rfl) dX10_part_21) (fun v4 => ?_)
      refine qv_if_eq (pc := 24) (tgt := 55) g dX10_part_24 (by decide) ?_ ?_
      · refine qv_lv [] rfl ?_
        exact qk2 ()
      · refine qv_iload (pc := 27) g dX10_part_27 rfl ?_
        refine qv_i2l (pc := 29) g dX10_part_29 ?_
        refine qv_lconst (v := 0) (pc := 30) g dX10_part_30 (by decide) ?_
        refine qv_ldc2 (pc := 31) g kl_RX10_118 dX10_part_31 ?_
        refine qv_aI rfl (qv_cs (pc := 34) g (c_X10_isIn (gl G) X (d + 1) T _ _ _ M) (qv_R hRm (by omega) (by decide)) ⟨Nat.zero_le _, Nat.zero_le _⟩ mw_X10_isIn lk_RX10_120 st_X10_isIn pd_X10_isIn rfl (Nat.le_of_ble_eq_true rfl) dX10_part_34) (fun v5 => ?_)
        refine qv_if_eq (pc := 37) (tgt := 55) g dX10_part_37 (by decide) ?_ ?_
        · refine qv_lv [] rfl ?_
          exact qk2 ()
        · refine qv_aload_n (pc := 40) g dX10_part_40 rfl rfl ?_
          refine qv_iload_n (pc := 41) g dX10_part_41 rfl rfl ?_
          refine qv_iconst (v := 2) (pc := 42) g dX10_part_42 (by decide) ?_
          refine qv_iload_n (pc := 43) g dX10_part_43 rfl rfl ?_
          refine qv_imul (pc := 44) g dX10_part_44 ?_
          refine qv_iload_n (pc := 45) g dX10_part_45 rfl rfl ?_
          refine qv_iadd (pc := 46) g dX10_part_46 ?_
          refine qv_iload (pc := 47) g dX10_part_47 rfl ?_
          refine qv_aL rfl (qv_cv (pc := 49) g (c_X10_at (gl G) X (d + 1) T _ _ _ _ M ht) (qv_R hRm (by omega) (by decide)) ⟨Nat.zero_le _, Nat.zero_le _⟩ mw_X10_at lk_RX10_92 im_X10_at se_X10_at (by decide) rfl ht pd_X10_at rfl (Nat.le_of_ble_eq_true rfl) dX10_part_49) (fun v6 => ?_)
          refine qv_goto (pc := 52) (tgt := 58) g dX10_part_52 (by decide) ?_
          exact qv_lret (pc := 58) g hr rfl dX10_part_58

set_option maxHeartbeats 4000000 in
set_option maxRecDepth 100000 in
theorem c_X10_e (l : Launch) (X : qv_X) (d : Nat) (T : List qv_Ent) (t : Nat) (p1 : Int32) (M : qv_Mem) {nt : Nat} (ht : qv_is (nt + 1) T 10 29 t) : qv_Ok l X yX10_e cX10_e 2 (some .int) (d + 2) T M [.ref (X.2.2.2 + t), .int p1] (qv_eI M) (f_X10_e T t p1 M) := by
  refine qv_mk (lv := [(0, .ref (X.2.2.2 + t)), (1, .int p1)]) (by decide) (Nat.le_of_ble_eq_true rfl) rfl (fun G hG hRm g hr => ?_)
  have g : qv_ok G X cX10_e RX10 2 := g
  unfold f_X10_e
  refine qv_iload_n (pc := 0) g dX10_e_0 rfl rfl ?_
  refine qv_aI rfl (qv_cs (pc := 1) g (c_X10_isRegister (gl G) X d T _ M) (qv_R hRm (by omega) (by decide)) ⟨Nat.zero_le _, Nat.zero_le _⟩ mw_X10_isRegister lk_RX10_126 st_X10_isRegister pd_X10_isRegister rfl (Nat.le_of_ble_eq_true rfl) dX10_e_1) (fun v1 => ?_)
  refine qv_if_eq (pc := 4) (tgt := 15) g dX10_e_4 (by decide) ?_ ?_
  · refine qv_iconst (v := (-1)) (pc := 15) g dX10_e_15 (by decide) ?_
    exact qv_iret (pc := 16) g hr rfl dX10_e_16
  · refine qv_aload_n (pc := 7) g dX10_e_7 rfl rfl ?_
    refine qv_iload_n (pc := 8) g dX10_e_8 rfl rfl ?_
    refine qv_aI rfl (qv_cv (pc := 9) g (c_X10_eOf (gl G) X (d + 1) T _ _ M ht) (qv_R hRm (by omega) (by decide)) ⟨Nat.zero_le _, Nat.zero_le _⟩ mw_X10_eOf lk_RX10_98 im_X10_eOf se_X10_eOf (by decide) rfl ht pd_X10_eOf rfl (Nat.le_of_ble_eq_true rfl) dX10_e_9) (fun v2 => ?_)
    refine qv_goto (pc := 12) (tgt := 16) g dX10_e_12 (by decide) ?_
    exact qv_iret (pc := 16) g hr rfl dX10_e_16

set_option maxHeartbeats 4000000 in
set_option maxRecDepth 100000 in
theorem c_X10_phase (l : Launch) (X : qv_X) (d : Nat) (T : List qv_Ent) (t : Nat) (p1 : Int32) (p2 : Int32) (M : qv_Mem) {nt : Nat} (ht : qv_is (nt + 1) T 10 29 t) : qv_Ok l X yX10_phase cX10_phase 4 (some .int) (d + 4) T M [.ref (X.2.2.2 + t), .int p1, .int p2] qv_eIM (f_X10_phase T t p1 p2 M) := by
  refine qv_mk (lv := [(0, .ref (X.2.2.2 + t)), (1, .int p1), (2, .int p2)]) (by decide) (Nat.le_of_ble_eq_true rfl) rfl (fun G hG hRm g hr => ?_)
  have g : qv_ok G X cX10_phase RX10 4 := g
  unfold f_X10_phase
  refine qv_iload_n (pc := 0) g dX10_phase_0 rfl rfl ?_
  refine qv_aI rfl (qv_cs (pc := 1) g (c_X10_isRegister (gl G) X (d + 2) T _ M) (qv_R hRm (by omega) (by decide)) ⟨Nat.zero_le _, Nat.zero_le _⟩ mw_X10_isRegister lk_RX10_126 st_X10_isRegister pd_X10_isRegister rfl (Nat.le_of_ble_eq_true rfl) dX10_phase_1) (fun v1 => ?_)
  refine qv_if_eq (pc := 4) (tgt := 14) g dX10_phase_4 (by decide) ?_ ?_
  · refine qv_iconst (v := (-1)) (pc := 14) g dX10_phase_14 (by decide) ?_
    exact qv_iret (pc := 15) g hr rfl dX10_phase_15
  · refine qv_iload_n (pc := 7) g dX10_phase_7 rfl rfl ?_
    refine qv_aI rfl (qv_cs (pc := 8) g (c_X10_isRegister (gl G) X (d + 2) T _ M) (qv_R hRm (by omega) (by decide)) ⟨Nat.zero_le _, Nat.zero_le _⟩ mw_X10_isRegister lk_RX10_126 st_X10_isRegister pd_X10_isRegister rfl (Nat.le_of_ble_eq_true rfl) dX10_phase_8) (fun v2 => ?_)
    refine qv_if_ne (pc := 11) (tgt := 16) g dX10_phase_11 (by decide) ?_ ?_
    · refine qv_aload_n (pc := 16) g dX10_phase_16 rfl rfl ?_
      refine qv_iload_n (pc := 17) g dX10_phase_17 rfl rfl ?_
      refine qv_bipush (v := 15) (pc := 18) g dX10_phase_18 (by decide) ?_
      refine qv_aV (qv_cv (pc := 20) g (c_X10_copies (gl G) X (d + 3) T _ _ _ M ht) (qv_R hRm (by omega) (by decide)) ⟨Nat.zero_le _, Nat.zero_le _⟩ mw_X10_copies lk_RX10_83 im_X10_copies se_X10_copies (by decide) rfl ht pd_X10_copies rfl (Nat.le_of_ble_eq_true rfl) dX10_phase_20) (fun M3 => ?_)
      refine qv_iconst (v := 0) (pc := 23) g dX10_phase_23 (by decide) ?_
      refine qv_istore_n (pc := 24) (lv1 := [(3, .int 0), (0, .ref (X.2.2.2 + t)), (1, .int p1), (2, .int p2)]) g dX10_phase_24 rfl (by decide) rfl ?_
      refine qv_join (fun (k5 : qv_Mem → Option (Int32 × qv_Mem)) => ∀ (M4 : qv_Mem), qv_V G X 4 (qv_QM G X T qv_eIM (0, 0)) T (0, 0) 59 [] [] M4 (k5 M4)) (fun M4 => ?_) (fun k5 qk5 => ?_)
      · refine qv_bipush (v := (-2)) (pc := 59) g dX10_phase_59 (by decide) ?_
        exact qv_iret (pc := 61) g hr rfl dX10_phase_61
      refine qv_lv [1, 2, 0] rfl ?_
      exact qv_L2 (Vh := fun (v6 : Int32) (M7 : qv_Mem) o => qv_V G X 4 (qv_QM G X T qv_eIM (0, 0)) T (0, 0) 25 [(0, .ref (X.2.2.2 + t)), (1, .int p1), (3, .int v6)] [] M7 o) (fun _ _ => qv_none) (fun r8 qr8 v6 M7 => by
        unfold b_X10_phase_25
        refine qv_iload_n (pc := 25) g dX10_phase_25 rfl rfl ?_
        refine qv_bipush (v := 8) (pc := 26) g dX10_phase_26 (by decide) ?_
        refine qv_icmp_ge (pc := 28) (tgt := 59) g dX10_phase_28 (by decide) ?_ ?_
        · refine qv_lv [] rfl ?_
          exact qk5 _
        · refine qv_aload_n (pc := 31) g dX10_phase_31 rfl rfl ?_
          refine qv_bipush (v := 15) (pc := 32) g dX10_phase_32 (by decide) ?_
          refine qv_iload_n (pc := 34) g dX10_phase_34 rfl rfl ?_
          refine qv_aI rfl (qv_cv (pc := 35) g (c_X10_areSame (gl G) X (d + 3) T _ _ _ M7 ht) (qv_R hRm (by omega) (by decide)) ⟨Nat.zero_le _, Nat.zero_le _⟩ mw_X10_areSame lk_RX10_143 im_X10_areSame se_X10_areSame (by decide) rfl ht pd_X10_areSame rfl (Nat.le_of_ble_eq_true rfl) dX10_phase_35) (fun v9 => ?_)
          refine qv_if_eq (pc := 38) (tgt := 43) g dX10_phase_38 (by decide) ?_ ?_
          · refine qv_aload_n (pc := 43) g dX10_phase_43 rfl rfl ?_
            refine qv_bipush (v := 15) (pc := 44) g dX10_phase_44 (by decide) ?_
            refine qv_bipush (v := 9) (pc := 46) g dX10_phase_46 (by decide) ?_
            refine qv_bipush (v := 15) (pc := 48) g dX10_phase_48 (by decide) ?_
            refine qv_aV (qv_cv (pc := 50) g (c_X10_product (gl G) X d T _ _ _ _ M7 ht) (qv_R hRm (by omega) (by decide)) ⟨Nat.zero_le _, Nat.zero_le _⟩ mw_X10_product lk_RX10_132 im_X10_product se_X10_product (by decide) rfl ht pd_X10_product rfl (Nat.le_of_ble_eq_true rfl) dX10_phase_50) (fun M10 => ?_)
            refine qv_iinc (pc := 53) (v := (v6 + 1)) (lv1 := [(3, .int (v6 + 1)), (0, .ref (X.2.2.2 + t)), (1, .int p1)]) g dX10_phase_53 rfl rfl (by decide) rfl ?_
            refine qv_goto (pc := 56) (tgt := 25) g dX10_phase_56 (by decide) ?_
            refine qv_lv [1, 2, 0] rfl ?_
            exact qr8 _ _
          · refine qv_iload_n (pc := 41) g dX10_phase_41 rfl rfl ?_
            exact qv_iret (pc := 42) g hr rfl dX10_phase_42) _ _ _
    · refine qv_iconst (v := (-1)) (pc := 14) g dX10_phase_14 (by decide) ?_
      exact qv_iret (pc := 15) g hr rfl dX10_phase_15

set_option maxHeartbeats 4000000 in
set_option maxRecDepth 100000 in
theorem c_X10_channels (l : Launch) (X : qv_X) (d : Nat) (T : List qv_Ent) (t : Nat) (p1 : Int32) (M : qv_Mem) {nt : Nat} (ht : qv_is (nt + 1) T 10 29 t) : qv_Ok l X yX10_channels cX10_channels 7 (some .int) (d + 3) T M [.ref (X.2.2.2 + t), .int p1] qv_eIM (f_X10_channels T t p1 M) := by
  refine qv_mk (lv := [(0, .ref (X.2.2.2 + t)), (1, .int p1)]) (by decide) (Nat.le_of_ble_eq_true rfl) rfl (fun G hG hRm g hr => ?_)
  have g : qv_ok G X cX10_channels RX10 7 := g
  unfold f_X10_channels
  refine qv_aload_n (pc := 0) g dX10_channels_0 rfl rfl ?_
  refine qv_iload_n (pc := 1) g dX10_channels_1 rfl rfl ?_
  refine qv_bipush (v := 16) (pc := 2) g dX10_channels_2 (by decide) ?_
  refine qv_aV (qv_cv (pc := 4) g (c_X10_turns (gl G) X (d + 1) T _ _ _ M ht) (qv_R hRm (by omega) (by decide)) ⟨Nat.zero_le _, Nat.zero_le _⟩ mw_X10_turns lk_RX10_138 im_X10_turns se_X10_turns (by decide) rfl ht pd_X10_turns rfl (Nat.le_of_ble_eq_true rfl) dX10_channels_4) (fun M1 => ?_)
  refine qv_iconst (v := 0) (pc := 7) g dX10_channels_7 (by decide) ?_
  refine qv_istore_n (pc := 8) (lv1 := [(2, .int 0), (0, .ref (X.2.2.2 + t)), (1, .int p1)]) g dX10_channels_8 rfl (by decide) rfl ?_
  refine qv_join (fun (k3 : qv_Mem → Option (Int32 × qv_Mem)) => ∀ (M2 : qv_Mem), qv_V G X 7 (qv_QM G X T qv_eIM (0, 0)) T (0, 0) 104 [(0, .ref (X.2.2.2 + t)), (1, .int p1)] [] M2 (k3 M2)) (fun M2 => ?_) (fun k3 qk3 => ?_)
  · refine qv_iconst (v := 2) (pc := 104) g dX10_channels_104 (by decide) ?_
    refine qv_aload_n (pc := 105) g dX10_channels_105 rfl rfl ?_
    refine qv_iload_n (pc := 106) g dX10_channels_106 rfl rfl ?_
    refine qv_aI rfl (qv_cv (pc := 107) g (c_X10_eOf (gl G) X (d + 2) T _ _ M2 ht) (qv_R hRm (by omega) (by decide)) ⟨Nat.zero_le _, Nat.zero_le _⟩ mw_X10_eOf lk_RX10_98 im_X10_eOf se_X10_eOf (by decide) rfl ht pd_X10_eOf rfl (Nat.le_of_ble_eq_true rfl) dX10_channels_107) (fun v4 => ?_)
    refine qv_imul (pc := 110) g dX10_channels_110 ?_
    refine qv_iconst (v := 2) (pc := 111) g dX10_channels_111 (by decide) ?_
    refine qv_iadd (pc := 112) g dX10_channels_112 ?_
    refine qv_istore_n (pc := 113) (lv1 := [(2, .int ((2 * v4) + 2)), (0, .ref (X.2.2.2 + t)), (1, .int p1)]) g dX10_channels_113 rfl (by decide) rfl ?_
    refine qv_iconst (v := 1) (pc := 114) g dX10_channels_114 (by decide) ?_
    refine qv_istore_n (pc := 115) (lv1 := [(3, .int 1), (2, .int ((2 * v4) + 2)), (0, .ref (X.2.2.2 + t)), (1, .int p1)]) g dX10_channels_115 rfl (by decide) rfl ?_
    refine qv_join (fun (k7 : Int32 → qv_Mem → Option (Int32 × qv_Mem)) => ∀ (v5 : Int32) (M6 : qv_Mem), qv_V G X 7 (qv_QM G X T qv_eIM (0, 0)) T (0, 0) 235 [(2, .int v5)] [] M6 (k7 v5 M6)) (fun v5 M6 => ?_) (fun k7 qk7 => ?_)
    · refine qv_iload_n (pc := 235) g dX10_channels_235 rfl rfl ?_
      exact qv_iret (pc := 236) g hr rfl dX10_channels_236
    refine qv_lv [2, 1, 0] rfl ?_
    exact qv_L3 (Vh := fun (v8 : Int32) (v9 : Int32) (M10 : qv_Mem) o => qv_V G X 7 (qv_QM G X T qv_eIM (0, 0)) T (0, 0) 116 [(0, .ref (X.2.2.2 + t)), (2, .int v8), (3, .int v9)] [] M10 o) (fun _ _ _ => qv_none) (fun r11 qr11 v8 v9 M10 => by
      unfold b_X10_channels_116
      refine qv_iload_n (pc := 116) g dX10_channels_116 rfl rfl ?_
      refine qv_if_eq (pc := 117) (tgt := 235) g dX10_channels_117 (by decide) ?_ ?_
      · refine qv_lv [1] rfl ?_
        exact qk7 _ _
      · refine qv_iload_n (pc := 120) g dX10_channels_120 rfl rfl ?_
        refine qv_if_le (pc := 121) (tgt := 235) g dX10_channels_121 (by decide) ?_ ?_
        · refine qv_lv [1] rfl ?_
          exact qk7 _ _
        · refine qv_iconst (v := 0) (pc := 124) g dX10_channels_124 (by decide) ?_
          refine qv_istore (pc := 125) (lv1 := [(4, .int 0), (0, .ref (X.2.2.2 + t)), (2, .int v8), (3, .int v9)]) g dX10_channels_125 (by decide) rfl ?_
          refine qv_join (fun (k13 : Int32 → Option (Int32 × qv_Mem)) => ∀ (v12 : Int32), qv_V G X 7 (qv_QM G X T qv_eIM (0, 0)) T (0, 0) 164 [(0, .ref (X.2.2.2 + t)), (2, .int v8), (3, .int v12)] [] M10 (k13 v12)) (fun v12 => ?_) (fun k13 qk13 => ?_)
          · refine qv_iconst (v := 0) (pc := 164) g dX10_channels_164 (by decide) ?_
            refine qv_istore (pc := 165) (lv1 := [(4, .int 0), (0, .ref (X.2.2.2 + t)), (2, .int v8), (3, .int v12)]) g dX10_channels_165 (by decide) rfl ?_
            refine qv_join (fun (k15 : qv_Mem → Option (Int32 × qv_Mem)) => ∀ (M14 : qv_Mem), qv_V G X 7 (qv_QM G X T qv_eIM (0, 0)) T (0, 0) 220 [(0, .ref (X.2.2.2 + t)), (2, .int v8), (3, .int v12)] [] M14 (k15 M14)) (fun M14 => ?_) (fun k15 qk15 => ?_)
            · refine qv_iload_n (pc := 220) g dX10_channels_220 rfl rfl ?_
              refine qv_iload_n (pc := 221) g dX10_channels_221 rfl rfl ?_
              refine qv_join (fun (k17 : Int32 → Option (Int32 × qv_Mem)) => ∀ (v16 : Int32), qv_V G X 7 (qv_QM G X T qv_eIM (0, 0)) T (0, 0) 230 [(0, .ref (X.2.2.2 + t)), (3, .int v12)] [.int v16, .int v8] M14 (k17 v16)) (fun v16 => ?_) (fun k17 qk17 => ?_)
              · refine qv_isub (pc := 230) g dX10_channels_230 ?_
                refine qv_istore_n (pc := 231) (lv1 := [(2, .int (v8 - v16)), (0, .ref (X.2.2.2 + t)), (3, .int v12)]) g dX10_channels_231 rfl (by decide) rfl ?_
                refine qv_goto (pc := 232) (tgt := 116) g dX10_channels_232 (by decide) ?_
                refine qv_lv [1, 0, 2] rfl ?_
                exact qr11 _ _ _
              refine qv_if_eq (pc := 222) (tgt := 229) g dX10_channels_222 (by decide) ?_ ?_
              · refine qv_iconst (v := 0) (pc := 229) g dX10_channels_229 (by decide) ?_
                refine qv_lv [0, 2] rfl ?_
                exact qk17 _
              · refine qv_iconst (v := 1) (pc := 225) g dX10_channels_225 (by decide) ?_
                refine qv_goto (pc := 226) (tgt := 230) g dX10_channels_226 (by decide) ?_
                refine qv_lv [0, 2] rfl ?_
                exact qk17 _
            refine qv_lv [1, 2, 3, 0] rfl ?_
            exact qv_L2 (Vh := fun (v18 : Int32) (M19 : qv_Mem) o => qv_V G X 7 (qv_QM G X T qv_eIM (0, 0)) T (0, 0) 167 [(0, .ref (X.2.2.2 + t)), (2, .int v8), (3, .int v12), (4, .int v18)] [] M19 o) (fun _ _ => qv_none) (fun r20 qr20 v18 M19 => by
              unfold b_X10_channels_167
              refine qv_iload (pc := 167) g dX10_channels_167 rfl ?_
              refine qv_bipush (v := 9) (pc := 169) g dX10_channels_169 (by decide) ?_
              refine qv_icmp_ge (pc := 171) (tgt := 220) g dX10_channels_171 (by decide) ?_ ?_
              · refine qv_lv [0, 1, 2] rfl ?_
                exact qk15 _
              · refine qv_iload_n (pc := 174) g dX10_channels_174 rfl rfl ?_
                refine qv_if_eq (pc := 175) (tgt := 220) g dX10_channels_175 (by decide) ?_ ?_
                · refine qv_lv [0, 1, 2] rfl ?_
                  exact qk15 _
                · refine qv_aload_n (pc := 178) g dX10_channels_178 rfl rfl ?_
                  have h1 : qv_is _ T 21 9 (qv_rf T t 10) := ht.to 10 (by decide) (by decide) rfl
                  refine qv_getr (pc := 179) g fw_RX10_40 ht (by decide) (by decide) rfl dX10_channels_179 ?_
                  refine qv_iload (pc := 182) g dX10_channels_182 rfl ?_
                  refine qv_lald (pc := 184) g h1 dX10_channels_184 (fun v21 => ?_)
                  refine qv_lstore (pc := 185) (lv1 := [(5, .long v21), (0, .ref (X.2.2.2 + t)), (2, .int v8), (3, .int v12), (4, .int v18)]) g dX10_channels_185 (by decide) rfl ?_
                  refine qv_aload_n (pc := 187) g dX10_channels_187 rfl rfl ?_
                  refine qv_getr (pc := 188) g fw_RX10_40 ht (by decide) (by decide) rfl dX10_channels_188 ?_
                  refine qv_iload (pc := 191) g dX10_channels_191 rfl ?_
                  refine qv_aload_n (pc := 193) g dX10_channels_193 rfl rfl ?_
                  have h2 : qv_is _ T 21 9 (qv_rf T t 11) := ht.to 11 (by decide) (by decide) rfl
                  refine qv_getr (pc := 194) g fw_RX10_43 ht (by decide) (by decide) rfl dX10_channels_194 ?_
                  refine qv_iload (pc := 197) g dX10_channels_197 rfl ?_
                  refine qv_lald (pc := 199) g h2 dX10_channels_199 (fun v22 => ?_)
                  refine qv_last (pc := 200) g h1 dX10_channels_200 (fun M23 => ?_)
                  refine qv_aload_n (pc := 201) g dX10_channels_201 rfl rfl ?_
                  refine qv_getr (pc := 202) g fw_RX10_43 ht (by decide) (by decide) rfl dX10_channels_202 ?_
                  refine qv_iload (pc := 205) g dX10_channels_205 rfl ?_
                  refine qv_lload (pc := 207) g dX10_channels_207 rfl ?_
                  refine qv_ldc2 (pc := 209) g kl_RX10_96 dX10_channels_209 ?_
                  refine qv_ldiv (pc := 212) g dX10_channels_212 (by decide) ?_
                  refine qv_last (pc := 213) g h2 dX10_channels_213 (fun M24 => ?_)
                  refine qv_iinc (pc := 214) (v := (v18 + 1)) (lv1 := [(4, .int (v18 + 1)), (5, .long v21), (0, .ref (X.2.2.2 + t)), (2, .int v8), (3, .int v12)]) g dX10_channels_214 rfl rfl (by decide) rfl ?_
                  refine qv_goto (pc := 217) (tgt := 167) g dX10_channels_217 (by decide) ?_
                  refine qv_lv [2, 3, 4, 0] rfl ?_
                  exact qr20 _ _) _ _ _
          refine qv_lv [1, 2, 3, 0] rfl ?_
          exact qv_L2 (Vh := fun (v25 : Int32) (v26 : Int32) o => qv_V G X 7 (qv_QM G X T qv_eIM (0, 0)) T (0, 0) 127 [(0, .ref (X.2.2.2 + t)), (2, .int v8), (3, .int v25), (4, .int v26)] [] M10 o) (fun _ _ => qv_none) (fun r27 qr27 v25 v26 => by
            unfold b_X10_channels_127
            refine qv_iload (pc := 127) g dX10_channels_127 rfl ?_
            refine qv_bipush (v := 9) (pc := 129) g dX10_channels_129 (by decide) ?_
            refine qv_icmp_ge (pc := 131) (tgt := 164) g dX10_channels_131 (by decide) ?_ ?_
            · refine qv_lv [0, 1, 2] rfl ?_
              exact qk13 _
            · refine qv_iload_n (pc := 134) g dX10_channels_134 rfl rfl ?_
              refine qv_aload_n (pc := 135) g dX10_channels_135 rfl rfl ?_
              have h3 : qv_is _ T 21 9 (qv_rf T t 10) := ht.to 10 (by decide) (by decide) rfl
              refine qv_getr (pc := 136) g fw_RX10_40 ht (by decide) (by decide) rfl dX10_channels_136 ?_
              refine qv_iload (pc := 139) g dX10_channels_139 rfl ?_
              refine qv_lald (pc := 141) g h3 dX10_channels_141 (fun v28 => ?_)
              refine qv_ldc2 (pc := 142) g kl_RX10_96 dX10_channels_142 ?_
              refine qv_lrem (pc := 145) g dX10_channels_145 (by decide) ?_
              refine qv_lconst (v := 0) (pc := 146) g dX10_channels_146 (by decide) ?_
              refine qv_lcmp (pc := 147) g dX10_channels_147 ?_
              refine qv_join (fun (k30 : Int32 → Option (Int32 × qv_Mem)) => ∀ (v29 : Int32), qv_V G X 7 (qv_QM G X T qv_eIM (0, 0)) T (0, 0) 156 [(0, .ref (X.2.2.2 + t)), (2, .int v8), (4, .int v26)] [.int v29, .int v25] M10 (k30 v29)) (fun v29 => ?_) (fun k30 qk30 => ?_)
              · refine qv_iand (pc := 156) g dX10_channels_156 ?_
                refine qv_istore_n (pc := 157) (lv1 := [(3, .int (v25 &&& v29)), (0, .ref (X.2.2.2 + t)), (2, .int v8), (4, .int v26)]) g dX10_channels_157 rfl (by decide) rfl ?_
                refine qv_iinc (pc := 158) (v := (v26 + 1)) (lv1 := [(4, .int (v26 + 1)), (3, .int (v25 &&& v29)), (0, .ref (X.2.2.2 + t)), (2, .int v8)]) g dX10_channels_158 rfl rfl (by decide) rfl ?_
                refine qv_goto (pc := 161) (tgt := 127) g dX10_channels_161 (by decide) ?_
                refine qv_lv [2, 3, 1, 0] rfl ?_
                exact qr27 _ _
              refine qv_if_ne (pc := 148) (tgt := 155) g dX10_channels_148 (by decide) ?_ ?_
              · refine qv_iconst (v := 0) (pc := 155) g dX10_channels_155 (by decide) ?_
                refine qv_lv [0, 1, 3] rfl ?_
                exact qk30 _
              · refine qv_iconst (v := 1) (pc := 151) g dX10_channels_151 (by decide) ?_
                refine qv_goto (pc := 152) (tgt := 156) g dX10_channels_152 (by decide) ?_
                refine qv_lv [0, 1, 3] rfl ?_
                exact qk30 _) _ _ _) _ _ _ _
  refine qv_lv [1, 2, 0] rfl ?_
  exact qv_L2 (Vh := fun (v31 : Int32) (M32 : qv_Mem) o => qv_V G X 7 (qv_QM G X T qv_eIM (0, 0)) T (0, 0) 9 [(0, .ref (X.2.2.2 + t)), (1, .int p1), (2, .int v31)] [] M32 o) (fun _ _ => qv_none) (fun r33 qr33 v31 M32 => by
    unfold b_X10_channels_9
    refine qv_iload_n (pc := 9) g dX10_channels_9 rfl rfl ?_
    refine qv_bipush (v := 9) (pc := 10) g dX10_channels_10 (by decide) ?_
    refine qv_icmp_ge (pc := 12) (tgt := 104) g dX10_channels_12 (by decide) ?_ ?_
    · refine qv_lv [0, 1] rfl ?_
      exact qk3 _
    · refine qv_aload_n (pc := 15) g dX10_channels_15 rfl rfl ?_
      refine qv_bipush (v := 17) (pc := 16) g dX10_channels_16 (by decide) ?_
      refine qv_bipush (v := 11) (pc := 18) g dX10_channels_18 (by decide) ?_
      refine qv_iload_n (pc := 20) g dX10_channels_20 rfl rfl ?_
      refine qv_iconst (v := 3) (pc := 21) g dX10_channels_21 (by decide) ?_
      refine qv_idiv (pc := 22) g dX10_channels_22 (by decide) ?_
      refine qv_iadd (pc := 23) g dX10_channels_23 ?_
      refine qv_iload_n (pc := 24) g dX10_channels_24 rfl rfl ?_
      refine qv_aV (qv_cv (pc := 25) g (c_X10_plainly (gl G) X d T _ _ _ _ M32 ht) (qv_R hRm (by omega) (by decide)) ⟨Nat.zero_le _, Nat.zero_le _⟩ mw_X10_plainly lk_RX10_110 im_X10_plainly se_X10_plainly (by decide) rfl ht pd_X10_plainly rfl (Nat.le_of_ble_eq_true rfl) dX10_channels_25) (fun M34 => ?_)
      refine qv_aload_n (pc := 28) g dX10_channels_28 rfl rfl ?_
      refine qv_bipush (v := 17) (pc := 29) g dX10_channels_29 (by decide) ?_
      refine qv_bipush (v := 17) (pc := 31) g dX10_channels_31 (by decide) ?_
      refine qv_bipush (v := 11) (pc := 33) g dX10_channels_33 (by decide) ?_
      refine qv_iload_n (pc := 35) g dX10_channels_35 rfl rfl ?_
      refine qv_iconst (v := 3) (pc := 36) g dX10_channels_36 (by decide) ?_
      refine qv_irem (pc := 37) g dX10_channels_37 (by decide) ?_
      refine qv_iadd (pc := 38) g dX10_channels_38 ?_
      refine qv_aV (qv_cv (pc := 39) g (c_X10_plainly (gl G) X d T _ _ _ _ M34 ht) (qv_R hRm (by omega) (by decide)) ⟨Nat.zero_le _, Nat.zero_le _⟩ mw_X10_plainly lk_RX10_110 im_X10_plainly se_X10_plainly (by decide) rfl ht pd_X10_plainly rfl (Nat.le_of_ble_eq_true rfl) dX10_channels_39) (fun M35 => ?_)
      refine qv_aload_n (pc := 42) g dX10_channels_42 rfl rfl ?_
      refine qv_bipush (v := 17) (pc := 43) g dX10_channels_43 (by decide) ?_
      refine qv_bipush (v := 17) (pc := 45) g dX10_channels_45 (by decide) ?_
      refine qv_bipush (v := 16) (pc := 47) g dX10_channels_47 (by decide) ?_
      refine qv_aV (qv_cv (pc := 49) g (c_X10_plainly (gl G) X d T _ _ _ _ M35 ht) (qv_R hRm (by omega) (by decide)) ⟨Nat.zero_le _, Nat.zero_le _⟩ mw_X10_plainly lk_RX10_110 im_X10_plainly se_X10_plainly (by decide) rfl ht pd_X10_plainly rfl (Nat.le_of_ble_eq_true rfl) dX10_channels_49) (fun M36 => ?_)
      refine qv_aload_n (pc := 52) g dX10_channels_52 rfl rfl ?_
      have h4 : qv_is _ T 21 9 (qv_rf T t 10) := ht.to 10 (by decide) (by decide) rfl
      refine qv_getr (pc := 53) g fw_RX10_40 ht (by decide) (by decide) rfl dX10_channels_53 ?_
      refine qv_iload_n (pc := 56) g dX10_channels_56 rfl rfl ?_
      refine qv_aload_n (pc := 57) g dX10_channels_57 rfl rfl ?_
      refine qv_bipush (v := 17) (pc := 58) g dX10_channels_58 (by decide) ?_
      refine qv_iconst (v := 0) (pc := 60) g dX10_channels_60 (by decide) ?_
      refine qv_iconst (v := 0) (pc := 61) g dX10_channels_61 (by decide) ?_
      refine qv_aL rfl (qv_cv (pc := 62) g (c_X10_at (gl G) X (d + 2) T _ _ _ _ M36 ht) (qv_R hRm (by omega) (by decide)) ⟨Nat.zero_le _, Nat.zero_le _⟩ mw_X10_at lk_RX10_92 im_X10_at se_X10_at (by decide) rfl ht pd_X10_at rfl (Nat.le_of_ble_eq_true rfl) dX10_channels_62) (fun v37 => ?_)
      refine qv_aload_n (pc := 65) g dX10_channels_65 rfl rfl ?_
      refine qv_bipush (v := 17) (pc := 66) g dX10_channels_66 (by decide) ?_
      refine qv_iconst (v := 3) (pc := 68) g dX10_channels_68 (by decide) ?_
      refine qv_iconst (v := 0) (pc := 69) g dX10_channels_69 (by decide) ?_
      refine qv_aL rfl (qv_cv (pc := 70) g (c_X10_at (gl G) X (d + 2) T _ _ _ _ M36 ht) (qv_R hRm (by omega) (by decide)) ⟨Nat.zero_le _, Nat.zero_le _⟩ mw_X10_at lk_RX10_92 im_X10_at se_X10_at (by decide) rfl ht pd_X10_at rfl (Nat.le_of_ble_eq_true rfl) dX10_channels_70) (fun v38 => ?_)
      refine qv_ladd (pc := 73) g dX10_channels_73 ?_
      refine qv_last (pc := 74) g h4 dX10_channels_74 (fun M39 => ?_)
      refine qv_aload_n (pc := 75) g dX10_channels_75 rfl rfl ?_
      have h5 : qv_is _ T 21 9 (qv_rf T t 11) := ht.to 11 (by decide) (by decide) rfl
      refine qv_getr (pc := 76) g fw_RX10_43 ht (by decide) (by decide) rfl dX10_channels_76 ?_
      refine qv_iload_n (pc := 79) g dX10_channels_79 rfl rfl ?_
      refine qv_aload_n (pc := 80) g dX10_channels_80 rfl rfl ?_
      refine qv_bipush (v := 17) (pc := 81) g dX10_channels_81 (by decide) ?_
      refine qv_iconst (v := 0) (pc := 83) g dX10_channels_83 (by decide) ?_
      refine qv_iconst (v := 1) (pc := 84) g dX10_channels_84 (by decide) ?_
      refine qv_aL rfl (qv_cv (pc := 85) g (c_X10_at (gl G) X (d + 2) T _ _ _ _ M39 ht) (qv_R hRm (by omega) (by decide)) ⟨Nat.zero_le _, Nat.zero_le _⟩ mw_X10_at lk_RX10_92 im_X10_at se_X10_at (by decide) rfl ht pd_X10_at rfl (Nat.le_of_ble_eq_true rfl) dX10_channels_85) (fun v40 => ?_)
      refine qv_aload_n (pc := 88) g dX10_channels_88 rfl rfl ?_
      refine qv_bipush (v := 17) (pc := 89) g dX10_channels_89 (by decide) ?_
      refine qv_iconst (v := 3) (pc := 91) g dX10_channels_91 (by decide) ?_
      refine qv_iconst (v := 1) (pc := 92) g dX10_channels_92 (by decide) ?_
      refine qv_aL rfl (qv_cv (pc := 93) g (c_X10_at (gl G) X (d + 2) T _ _ _ _ M39 ht) (qv_R hRm (by omega) (by decide)) ⟨Nat.zero_le _, Nat.zero_le _⟩ mw_X10_at lk_RX10_92 im_X10_at se_X10_at (by decide) rfl ht pd_X10_at rfl (Nat.le_of_ble_eq_true rfl) dX10_channels_93) (fun v41 => ?_)
      refine qv_ladd (pc := 96) g dX10_channels_96 ?_
      refine qv_last (pc := 97) g h5 dX10_channels_97 (fun M42 => ?_)
      refine qv_iinc (pc := 98) (v := (v31 + 1)) (lv1 := [(2, .int (v31 + 1)), (0, .ref (X.2.2.2 + t)), (1, .int p1)]) g dX10_channels_98 rfl rfl (by decide) rfl ?_
      refine qv_goto (pc := 101) (tgt := 9) g dX10_channels_101 (by decide) ?_
      refine qv_lv [1, 2, 0] rfl ?_
      exact qr33 _ _) _ _ _

set_option maxHeartbeats 4000000 in
set_option maxRecDepth 100000 in
theorem c_X10_channel (l : Launch) (X : qv_X) (d : Nat) (T : List qv_Ent) (t : Nat) (p1 : Int32) (p2 : Int32) (p3 : Int32) (p4 : Int32) (M : qv_Mem) {nt : Nat} (ht : qv_is (nt + 1) T 10 29 t) : qv_Ok l X yX10_channel cX10_channel 6 (some .long) (d + 4) T M [.ref (X.2.2.2 + t), .int p1, .int p2, .int p3, .int p4] qv_eLM (f_X10_channel T t p1 p2 p3 p4 M) := by
  refine qv_mk (lv := [(0, .ref (X.2.2.2 + t)), (1, .int p1), (2, .int p2), (3, .int p3), (4, .int p4)]) (by decide) (Nat.le_of_ble_eq_true rfl) rfl (fun G hG hRm g hr => ?_)
  have g : qv_ok G X cX10_channel RX10 6 := g
  unfold f_X10_channel
  refine qv_iload_n (pc := 0) g dX10_channel_0 rfl rfl ?_
  refine qv_aI rfl (qv_cs (pc := 1) g (c_X10_isRegister (gl G) X (d + 2) T _ M) (qv_R hRm (by omega) (by decide)) ⟨Nat.zero_le _, Nat.zero_le _⟩ mw_X10_isRegister lk_RX10_126 st_X10_isRegister pd_X10_isRegister rfl (Nat.le_of_ble_eq_true rfl) dX10_channel_1) (fun v1 => ?_)
  refine qv_join (fun (k2 : Unit → Option (Int64 × qv_Mem)) => ∀ (_ : Unit), qv_V G X 6 (qv_QM G X T qv_eLM (0, 0)) T (0, 0) 42 [] [] M (k2 ())) (fun _ => ?_) (fun k2 qk2 => ?_)
  · refine qv_ldc2 (pc := 42) g kl_RX10_141 dX10_channel_42 ?_
    exact qv_lret (pc := 45) g hr rfl dX10_channel_45
  refine qv_if_eq (pc := 4) (tgt := 42) g dX10_channel_4 (by decide) ?_ ?_
  · refine qv_lv [] rfl ?_
    exact qk2 ()
  · refine qv_iload_n (pc := 7) g dX10_channel_7 rfl rfl ?_
    refine qv_i2l (pc := 8) g dX10_channel_8 ?_
    refine qv_lconst (v := 0) (pc := 9) g dX10_channel_9 (by decide) ?_
    refine qv_ldc2 (pc := 10) g kl_RX10_96 dX10_channel_10 ?_
    refine qv_aI rfl (qv_cs (pc := 13) g (c_X10_isIn (gl G) X (d + 3) T _ _ _ M) (qv_R hRm (by omega) (by decide)) ⟨Nat.zero_le _, Nat.zero_le _⟩ mw_X10_isIn lk_RX10_120 st_X10_isIn pd_X10_isIn rfl (Nat.le_of_ble_eq_true rfl) dX10_channel_13) (fun v3 => ?_)
    refine qv_if_eq (pc := 16) (tgt := 42) g dX10_channel_16 (by decide) ?_ ?_
    · refine qv_lv [] rfl ?_
      exact qk2 ()
    · refine qv_iload_n (pc := 19) g dX10_channel_19 rfl rfl ?_
      refine qv_i2l (pc := 20) g dX10_channel_20 ?_
      refine qv_lconst (v := 0) (pc := 21) g dX10_channel_21 (by decide) ?_
      refine qv_ldc2 (pc := 22) g kl_RX10_96 dX10_channel_22 ?_
      refine qv_aI rfl (qv_cs (pc := 25) g (c_X10_isIn (gl G) X (d + 3) T _ _ _ M) (qv_R hRm (by omega) (by decide)) ⟨Nat.zero_le _, Nat.zero_le _⟩ mw_X10_isIn lk_RX10_120 st_X10_isIn pd_X10_isIn rfl (Nat.le_of_ble_eq_true rfl) dX10_channel_25) (fun v4 => ?_)
      refine qv_if_eq (pc := 28) (tgt := 42) g dX10_channel_28 (by decide) ?_ ?_
      · refine qv_lv [] rfl ?_
        exact qk2 ()
      · refine qv_iload (pc := 31) g dX10_channel_31 rfl ?_
        refine qv_i2l (pc := 33) g dX10_channel_33 ?_
        refine qv_lconst (v := 0) (pc := 34) g dX10_channel_34 (by decide) ?_
        refine qv_lconst (v := 1) (pc := 35) g dX10_channel_35 (by decide) ?_
        refine qv_aI rfl (qv_cs (pc := 36) g (c_X10_isIn (gl G) X (d + 3) T _ _ _ M) (qv_R hRm (by omega) (by decide)) ⟨Nat.zero_le _, Nat.zero_le _⟩ mw_X10_isIn lk_RX10_120 st_X10_isIn pd_X10_isIn rfl (Nat.le_of_ble_eq_true rfl) dX10_channel_36) (fun v5 => ?_)
        refine qv_if_ne (pc := 39) (tgt := 46) g dX10_channel_39 (by decide) ?_ ?_
        · refine qv_aload_n (pc := 46) g dX10_channel_46 rfl rfl ?_
          refine qv_iload_n (pc := 47) g dX10_channel_47 rfl rfl ?_
          refine qv_aIM (qv_cv (pc := 48) g (c_X10_channels (gl G) X d T _ _ M ht) (qv_R hRm (by omega) (by decide)) ⟨Nat.zero_le _, Nat.zero_le _⟩ mw_X10_channels lk_RX10_147 im_X10_channels se_X10_channels (by decide) rfl ht pd_X10_channels rfl (Nat.le_of_ble_eq_true rfl) dX10_channel_48) (fun v6 M7 => ?_)
          refine qv_istore (pc := 51) (lv1 := [(5, .int v6), (0, .ref (X.2.2.2 + t)), (1, .int p1), (2, .int p2), (3, .int p3), (4, .int p4)]) g dX10_channel_51 (by decide) rfl ?_
          refine qv_iload (pc := 53) g dX10_channel_53 rfl ?_
          refine qv_if_ne (pc := 55) (tgt := 71) g dX10_channel_55 (by decide) ?_ ?_
          · refine qv_aload_n (pc := 71) g dX10_channel_71 rfl rfl ?_
            have h1 : qv_is _ T 21 9 (qv_rf T t 11) := ht.to 11 (by decide) (by decide) rfl
            refine qv_getr (pc := 72) g fw_RX10_43 ht (by decide) (by decide) rfl dX10_channel_72 ?_
            refine qv_iconst (v := 3) (pc := 75) g dX10_channel_75 (by decide) ?_
            refine qv_iload_n (pc := 76) g dX10_channel_76 rfl rfl ?_
            refine qv_imul (pc := 77) g dX10_channel_77 ?_
            refine qv_iload_n (pc := 78) g dX10_channel_78 rfl rfl ?_
            refine qv_iadd (pc := 79) g dX10_channel_79 ?_
            refine qv_lald (pc := 80) g h1 dX10_channel_80 (fun v8 => ?_)
            exact qv_lret (pc := 81) g hr rfl dX10_channel_81
          · refine qv_aload_n (pc := 58) g dX10_channel_58 rfl rfl ?_
            have h2 : qv_is _ T 21 9 (qv_rf T t 10) := ht.to 10 (by decide) (by decide) rfl
            refine qv_getr (pc := 59) g fw_RX10_40 ht (by decide) (by decide) rfl dX10_channel_59 ?_
            refine qv_iconst (v := 3) (pc := 62) g dX10_channel_62 (by decide) ?_
            refine qv_iload_n (pc := 63) g dX10_channel_63 rfl rfl ?_
            refine qv_imul (pc := 64) g dX10_channel_64 ?_
            refine qv_iload_n (pc := 65) g dX10_channel_65 rfl rfl ?_
            refine qv_iadd (pc := 66) g dX10_channel_66 ?_
            refine qv_lald (pc := 67) g h2 dX10_channel_67 (fun v9 => ?_)
            refine qv_goto (pc := 68) (tgt := 81) g dX10_channel_68 (by decide) ?_
            exact qv_lret (pc := 81) g hr rfl dX10_channel_81
        · refine qv_lv [] rfl ?_
          exact qk2 ()

set_option maxHeartbeats 4000000 in
set_option maxRecDepth 100000 in
theorem c_X10_count (l : Launch) (X : qv_X) (d : Nat) (T : List qv_Ent) (t : Nat) (p1 : Int32) (M : qv_Mem) {nt : Nat} (ht : qv_is (nt + 1) T 10 29 t) : qv_Ok l X yX10_count cX10_count 2 (some .int) (d + 4) T M [.ref (X.2.2.2 + t), .int p1] qv_eIM (f_X10_count T t p1 M) := by
  refine qv_mk (lv := [(0, .ref (X.2.2.2 + t)), (1, .int p1)]) (by decide) (Nat.le_of_ble_eq_true rfl) rfl (fun G hG hRm g hr => ?_)
  have g : qv_ok G X cX10_count RX10 2 := g
  unfold f_X10_count
  refine qv_iload_n (pc := 0) g dX10_count_0 rfl rfl ?_
  refine qv_aI rfl (qv_cs (pc := 1) g (c_X10_isRegister (gl G) X (d + 2) T _ M) (qv_R hRm (by omega) (by decide)) ⟨Nat.zero_le _, Nat.zero_le _⟩ mw_X10_isRegister lk_RX10_126 st_X10_isRegister pd_X10_isRegister rfl (Nat.le_of_ble_eq_true rfl) dX10_count_1) (fun v1 => ?_)
  refine qv_if_eq (pc := 4) (tgt := 15) g dX10_count_4 (by decide) ?_ ?_
  · refine qv_iconst (v := (-1)) (pc := 15) g dX10_count_15 (by decide) ?_
    exact qv_iret (pc := 16) g hr rfl dX10_count_16
  · refine qv_aload_n (pc := 7) g dX10_count_7 rfl rfl ?_
    refine qv_iload_n (pc := 8) g dX10_count_8 rfl rfl ?_
    refine qv_aIM (qv_cv (pc := 9) g (c_X10_channels (gl G) X d T _ _ M ht) (qv_R hRm (by omega) (by decide)) ⟨Nat.zero_le _, Nat.zero_le _⟩ mw_X10_channels lk_RX10_147 im_X10_channels se_X10_channels (by decide) rfl ht pd_X10_channels rfl (Nat.le_of_ble_eq_true rfl) dX10_count_9) (fun v2 M3 => ?_)
    refine qv_goto (pc := 12) (tgt := 16) g dX10_count_12 (by decide) ?_
    exact qv_iret (pc := 16) g hr rfl dX10_count_16

set_option maxHeartbeats 4000000 in
set_option maxRecDepth 100000 in
theorem c_X10_isNumber (l : Launch) (X : qv_X) (d : Nat) (T : List qv_Ent) (t : Nat) (p1 : Int32) (M : qv_Mem) {nt : Nat} (ht : qv_is (nt + 1) T 10 29 t) : qv_Ok l X yX10_isNumber cX10_isNumber 2 (some .boolean) (d + 1) T M [.ref (X.2.2.2 + t), .int p1] (qv_eI M) (f_X10_isNumber T t p1 M) := by
  refine qv_mk (lv := [(0, .ref (X.2.2.2 + t)), (1, .int p1)]) (by decide) (Nat.le_of_ble_eq_true rfl) rfl (fun G hG hRm g hr => ?_)
  have g : qv_ok G X cX10_isNumber RX10 2 := g
  unfold f_X10_isNumber
  refine qv_iload_n (pc := 0) g dX10_isNumber_0 rfl rfl ?_
  refine qv_i2l (pc := 1) g dX10_isNumber_1 ?_
  refine qv_lconst (v := 0) (pc := 2) g dX10_isNumber_2 (by decide) ?_
  refine qv_aload_n (pc := 3) g dX10_isNumber_3 rfl rfl ?_
  refine qv_gets (pc := 4) g fw_RX10_150 ht (by decide) (by decide) rfl dX10_isNumber_4 (fun v1 => ?_)
  refine qv_iconst (v := 1) (pc := 7) g dX10_isNumber_7 (by decide) ?_
  refine qv_isub (pc := 8) g dX10_isNumber_8 ?_
  refine qv_i2l (pc := 9) g dX10_isNumber_9 ?_
  refine qv_aI rfl (qv_cs (pc := 10) g (c_X10_isIn (gl G) X d T _ _ _ M) (qv_R hRm (by omega) (by decide)) ⟨Nat.zero_le _, Nat.zero_le _⟩ mw_X10_isIn lk_RX10_120 st_X10_isIn pd_X10_isIn rfl (Nat.le_of_ble_eq_true rfl) dX10_isNumber_10) (fun v2 => ?_)
  exact qv_zretg (pc := 13) g hr rfl dX10_isNumber_13

set_option maxHeartbeats 4000000 in
set_option maxRecDepth 100000 in
theorem c_X10_clifford (l : Launch) (X : qv_X) (d : Nat) (T : List qv_Ent) (t : Nat) (p1 : Int32) (M : qv_Mem) {nt : Nat} (ht : qv_is (nt + 1) T 10 29 t) : qv_Ok l X yX10_clifford cX10_clifford 2 (some .int) (d + 2) T M [.ref (X.2.2.2 + t), .int p1] (qv_eI M) (f_X10_clifford T t p1 M) := by
  refine qv_mk (lv := [(0, .ref (X.2.2.2 + t)), (1, .int p1)]) (by decide) (Nat.le_of_ble_eq_true rfl) rfl (fun G hG hRm g hr => ?_)
  have g : qv_ok G X cX10_clifford RX10 2 := g
  unfold f_X10_clifford
  refine qv_iload_n (pc := 0) g dX10_clifford_0 rfl rfl ?_
  refine qv_aI rfl (qv_cs (pc := 1) g (c_X10_isRegister (gl G) X d T _ M) (qv_R hRm (by omega) (by decide)) ⟨Nat.zero_le _, Nat.zero_le _⟩ mw_X10_isRegister lk_RX10_126 st_X10_isRegister pd_X10_isRegister rfl (Nat.le_of_ble_eq_true rfl) dX10_clifford_1) (fun v1 => ?_)
  refine qv_if_eq (pc := 4) (tgt := 15) g dX10_clifford_4 (by decide) ?_ ?_
  · refine qv_iconst (v := (-1)) (pc := 15) g dX10_clifford_15 (by decide) ?_
    exact qv_iret (pc := 16) g hr rfl dX10_clifford_16
  · refine qv_aload_n (pc := 7) g dX10_clifford_7 rfl rfl ?_
    refine qv_iload_n (pc := 8) g dX10_clifford_8 rfl rfl ?_
    refine qv_aI rfl (qv_cv (pc := 9) g (c_X10_cliffordOf (gl G) X (d + 1) T _ _ M ht) (qv_R hRm (by omega) (by decide)) ⟨Nat.zero_le _, Nat.zero_le _⟩ mw_X10_cliffordOf lk_RX10_160 im_X10_cliffordOf se_X10_cliffordOf (by decide) rfl ht pd_X10_cliffordOf rfl (Nat.le_of_ble_eq_true rfl) dX10_clifford_9) (fun v2 => ?_)
    refine qv_goto (pc := 12) (tgt := 16) g dX10_clifford_12 (by decide) ?_
    exact qv_iret (pc := 16) g hr rfl dX10_clifford_16

set_option maxHeartbeats 4000000 in
set_option maxRecDepth 100000 in
theorem c_X10_take (l : Launch) (X : qv_X) (d : Nat) (T : List qv_Ent) (t : Nat) (p1 : Int32) (p2 : Int32) (M : qv_Mem) {nt : Nat} (ht : qv_is (nt + 1) T 10 29 t) : qv_Ok l X yX10_take cX10_take 3 (some .int) (d + 2) T M [.ref (X.2.2.2 + t), .int p1, .int p2] qv_eIM (f_X10_take T t p1 p2 M) := by
  refine qv_mk (lv := [(0, .ref (X.2.2.2 + t)), (1, .int p1), (2, .int p2)]) (by decide) (Nat.le_of_ble_eq_true rfl) rfl (fun G hG hRm g hr => ?_)
  have g : qv_ok G X cX10_take RX10 3 := g
  unfold f_X10_take
  refine qv_iload_n (pc := 0) g dX10_take_0 rfl rfl ?_
  refine qv_aI rfl (qv_cs (pc := 1) g (c_X10_isRegister (gl G) X d T _ M) (qv_R hRm (by omega) (by decide)) ⟨Nat.zero_le _, Nat.zero_le _⟩ mw_X10_isRegister lk_RX10_126 st_X10_isRegister pd_X10_isRegister rfl (Nat.le_of_ble_eq_true rfl) dX10_take_1) (fun v1 => ?_)
  refine qv_if_eq (pc := 4) (tgt := 15) g dX10_take_4 (by decide) ?_ ?_
  · refine qv_iconst (v := (-1)) (pc := 15) g dX10_take_15 (by decide) ?_
    exact qv_iret (pc := 16) g hr rfl dX10_take_16
  · refine qv_aload_n (pc := 7) g dX10_take_7 rfl rfl ?_
    refine qv_iload_n (pc := 8) g dX10_take_8 rfl rfl ?_
    refine qv_aI rfl (qv_cv (pc := 9) g (c_X10_isNumber (gl G) X d T _ _ M ht) (qv_R hRm (by omega) (by decide)) ⟨Nat.zero_le _, Nat.zero_le _⟩ mw_X10_isNumber lk_RX10_166 im_X10_isNumber se_X10_isNumber (by decide) rfl ht pd_X10_isNumber rfl (Nat.le_of_ble_eq_true rfl) dX10_take_9) (fun v2 => ?_)
    refine qv_if_ne (pc := 12) (tgt := 17) g dX10_take_12 (by decide) ?_ ?_
    · refine qv_aload_n (pc := 17) g dX10_take_17 rfl rfl ?_
      refine qv_iload_n (pc := 18) g dX10_take_18 rfl rfl ?_
      refine qv_iload_n (pc := 19) g dX10_take_19 rfl rfl ?_
      refine qv_aV (qv_cv (pc := 20) g (c_X10_loads (gl G) X (d + 1) T _ _ _ M ht) (qv_R hRm (by omega) (by decide)) ⟨Nat.zero_le _, Nat.zero_le _⟩ mw_X10_loads lk_RX10_157 im_X10_loads se_X10_loads (by decide) rfl ht pd_X10_loads rfl (Nat.le_of_ble_eq_true rfl) dX10_take_20) (fun M3 => ?_)
      refine qv_aload_n (pc := 23) g dX10_take_23 rfl rfl ?_
      refine qv_iload_n (pc := 24) g dX10_take_24 rfl rfl ?_
      refine qv_aI rfl (qv_cv (pc := 25) g (c_X10_eOf (gl G) X (d + 1) T _ _ M3 ht) (qv_R hRm (by omega) (by decide)) ⟨Nat.zero_le _, Nat.zero_le _⟩ mw_X10_eOf lk_RX10_98 im_X10_eOf se_X10_eOf (by decide) rfl ht pd_X10_eOf rfl (Nat.le_of_ble_eq_true rfl) dX10_take_25) (fun v4 => ?_)
      exact qv_iret (pc := 28) g hr rfl dX10_take_28
    · refine qv_iconst (v := (-1)) (pc := 15) g dX10_take_15 (by decide) ?_
      exact qv_iret (pc := 16) g hr rfl dX10_take_16

set_option maxHeartbeats 4000000 in
set_option maxRecDepth 100000 in
theorem c_X10_leads (l : Launch) (X : qv_X) (d : Nat) (T : List qv_Ent) (t : Nat) (p1 : Int32) (p2 : Int32) (M : qv_Mem) {nt : Nat} (ht : qv_is (nt + 1) T 10 29 t) : qv_Ok l X yX10_leads cX10_leads 3 (some .int) (d + 2) T M [.ref (X.2.2.2 + t), .int p1, .int p2] (qv_eI M) (f_X10_leads T t p1 p2 M) := by
  refine qv_mk (lv := [(0, .ref (X.2.2.2 + t)), (1, .int p1), (2, .int p2)]) (by decide) (Nat.le_of_ble_eq_true rfl) rfl (fun G hG hRm g hr => ?_)
  have g : qv_ok G X cX10_leads RX10 3 := g
  unfold f_X10_leads
  refine qv_aload_n (pc := 0) g dX10_leads_0 rfl rfl ?_
  refine qv_iload_n (pc := 1) g dX10_leads_1 rfl rfl ?_
  refine qv_aI rfl (qv_cv (pc := 2) g (c_X10_isNumber (gl G) X d T _ _ M ht) (qv_R hRm (by omega) (by decide)) ⟨Nat.zero_le _, Nat.zero_le _⟩ mw_X10_isNumber lk_RX10_166 im_X10_isNumber se_X10_isNumber (by decide) rfl ht pd_X10_isNumber rfl (Nat.le_of_ble_eq_true rfl) dX10_leads_2) (fun v1 => ?_)
  refine qv_if_eq (pc := 5) (tgt := 29) g dX10_leads_5 (by decide) ?_ ?_
  · refine qv_iconst (v := (-1)) (pc := 29) g dX10_leads_29 (by decide) ?_
    exact qv_iret (pc := 30) g hr rfl dX10_leads_30
  · refine qv_iload_n (pc := 8) g dX10_leads_8 rfl rfl ?_
    refine qv_aI rfl (qv_cs (pc := 9) g (c_X10_isClifford (gl G) X (d + 1) T _ M) (qv_R hRm (by omega) (by decide)) ⟨Nat.zero_le _, Nat.zero_le _⟩ mw_X10_isClifford lk_RX10_163 st_X10_isClifford pd_X10_isClifford rfl (Nat.le_of_ble_eq_true rfl) dX10_leads_9) (fun v2 => ?_)
    refine qv_if_eq (pc := 12) (tgt := 29) g dX10_leads_12 (by decide) ?_ ?_
    · refine qv_iconst (v := (-1)) (pc := 29) g dX10_leads_29 (by decide) ?_
      exact qv_iret (pc := 30) g hr rfl dX10_leads_30
    · refine qv_aload_n (pc := 15) g dX10_leads_15 rfl rfl ?_
      have h1 : qv_is _ T 20 1344 (qv_rf T t 12) := ht.to 12 (by decide) (by decide) rfl
      refine qv_getr (pc := 16) g fw_RX10_46 ht (by decide) (by decide) rfl dX10_leads_16 ?_
      refine qv_bipush (v := 7) (pc := 19) g dX10_leads_19 (by decide) ?_
      refine qv_iload_n (pc := 21) g dX10_leads_21 rfl rfl ?_
      refine qv_imul (pc := 22) g dX10_leads_22 ?_
      refine qv_iload_n (pc := 23) g dX10_leads_23 rfl rfl ?_
      refine qv_iadd (pc := 24) g dX10_leads_24 ?_
      refine qv_iald (pc := 25) g h1 dX10_leads_25 (fun v3 => ?_)
      refine qv_goto (pc := 26) (tgt := 30) g dX10_leads_26 (by decide) ?_
      exact qv_iret (pc := 30) g hr rfl dX10_leads_30

set_option maxHeartbeats 4000000 in
set_option maxRecDepth 100000 in
theorem c_X10_price (l : Launch) (X : qv_X) (d : Nat) (T : List qv_Ent) (t : Nat) (p1 : Int32) (p2 : Int32) (M : qv_Mem) {nt : Nat} (ht : qv_is (nt + 1) T 10 29 t) : qv_Ok l X yX10_price cX10_price 4 (some .int) (d + 2) T M [.ref (X.2.2.2 + t), .int p1, .int p2] qv_eIM (f_X10_price T t p1 p2 M) := by
  refine qv_mk (lv := [(0, .ref (X.2.2.2 + t)), (1, .int p1), (2, .int p2)]) (by decide) (Nat.le_of_ble_eq_true rfl) rfl (fun G hG hRm g hr => ?_)
  have g : qv_ok G X cX10_price RX10 4 := g
  unfold f_X10_price
  refine qv_iload_n (pc := 0) g dX10_price_0 rfl rfl ?_
  refine qv_aI rfl (qv_cs (pc := 1) g (c_X10_isGate (gl G) X d T _ M) (qv_R hRm (by omega) (by decide)) ⟨Nat.zero_le _, Nat.zero_le _⟩ mw_X10_isGate lk_RX10_129 st_X10_isGate pd_X10_isGate rfl (Nat.le_of_ble_eq_true rfl) dX10_price_1) (fun v1 => ?_)
  refine qv_if_eq (pc := 4) (tgt := 19) g dX10_price_4 (by decide) ?_ ?_
  · refine qv_iconst (v := (-1)) (pc := 19) g dX10_price_19 (by decide) ?_
    exact qv_iret (pc := 20) g hr rfl dX10_price_20
  · refine qv_iload_n (pc := 7) g dX10_price_7 rfl rfl ?_
    refine qv_i2l (pc := 8) g dX10_price_8 ?_
    refine qv_lconst (v := 0) (pc := 9) g dX10_price_9 (by decide) ?_
    refine qv_ldc2 (pc := 10) g kl_RX10_169 dX10_price_10 ?_
    refine qv_aI rfl (qv_cs (pc := 13) g (c_X10_isIn (gl G) X (d + 1) T _ _ _ M) (qv_R hRm (by omega) (by decide)) ⟨Nat.zero_le _, Nat.zero_le _⟩ mw_X10_isIn lk_RX10_120 st_X10_isIn pd_X10_isIn rfl (Nat.le_of_ble_eq_true rfl) dX10_price_13) (fun v2 => ?_)
    refine qv_if_ne (pc := 16) (tgt := 21) g dX10_price_16 (by decide) ?_ ?_
    · refine qv_aload_n (pc := 21) g dX10_price_21 rfl rfl ?_
      have h1 : qv_is _ T 20 7 (qv_rf T t 3) := ht.to 3 (by decide) (by decide) rfl
      refine qv_getr (pc := 22) g fw_RX10_21 ht (by decide) (by decide) rfl dX10_price_22 ?_
      refine qv_iload_n (pc := 25) g dX10_price_25 rfl rfl ?_
      refine qv_iald (pc := 26) g h1 dX10_price_26 (fun v3 => ?_)
      refine qv_istore_n (pc := 27) (lv1 := [(3, .int v3), (0, .ref (X.2.2.2 + t)), (1, .int p1), (2, .int p2)]) g dX10_price_27 rfl (by decide) rfl ?_
      refine qv_aload_n (pc := 28) g dX10_price_28 rfl rfl ?_
      refine qv_getr (pc := 29) g fw_RX10_21 ht (by decide) (by decide) rfl dX10_price_29 ?_
      refine qv_iload_n (pc := 32) g dX10_price_32 rfl rfl ?_
      refine qv_iload_n (pc := 33) g dX10_price_33 rfl rfl ?_
      refine qv_iast (pc := 34) g h1 dX10_price_34 (fun M4 => ?_)
      refine qv_iload_n (pc := 35) g dX10_price_35 rfl rfl ?_
      exact qv_iret (pc := 36) g hr rfl dX10_price_36
    · refine qv_iconst (v := (-1)) (pc := 19) g dX10_price_19 (by decide) ?_
      exact qv_iret (pc := 20) g hr rfl dX10_price_20

set_option maxHeartbeats 4000000 in
set_option maxRecDepth 100000 in
theorem c_X10_costs (l : Launch) (X : qv_X) (d : Nat) (T : List qv_Ent) (t : Nat) (M : qv_Mem) {nt : Nat} (ht : qv_is (nt + 1) T 10 29 t) : qv_Ok l X yX10_costs cX10_costs 6 none (d + 1) T M [.ref (X.2.2.2 + t)] qv_eV (f_X10_costs T t M) := by
  refine qv_mk (lv := [(0, .ref (X.2.2.2 + t))]) (by decide) (Nat.le_of_ble_eq_true rfl) rfl (fun G hG hRm g hr => ?_)
  have g : qv_ok G X cX10_costs RX10 6 := g
  unfold f_X10_costs
  refine qv_iconst (v := 0) (pc := 0) g dX10_costs_0 (by decide) ?_
  refine qv_istore_n (pc := 1) (lv1 := [(1, .int 0), (0, .ref (X.2.2.2 + t))]) g dX10_costs_1 rfl (by decide) rfl ?_
  refine qv_join (fun (k2 : qv_Mem → Option qv_Mem) => ∀ (M1 : qv_Mem), qv_V G X 6 (qv_QM G X T qv_eV (0, 0)) T (0, 0) 39 [(0, .ref (X.2.2.2 + t))] [] M1 (k2 M1)) (fun M1 => ?_) (fun k2 qk2 => ?_)
  · refine qv_iconst (v := 1) (pc := 39) g dX10_costs_39 (by decide) ?_
    refine qv_istore_n (pc := 40) (lv1 := [(1, .int 1), (0, .ref (X.2.2.2 + t))]) g dX10_costs_40 rfl (by decide) rfl ?_
    refine qv_join (fun (k4 : qv_Mem → Option qv_Mem) => ∀ (M3 : qv_Mem), qv_V G X 6 (qv_QM G X T qv_eV (0, 0)) T (0, 0) 197 [] [] M3 (k4 M3)) (fun M3 => ?_) (fun k4 qk4 => ?_)
    · exact qv_vret (pc := 197) g hr rfl dX10_costs_197
    refine qv_lv [1, 0] rfl ?_
    exact qv_L2 (Vh := fun (v5 : Int32) (M6 : qv_Mem) o => qv_V G X 6 (qv_QM G X T qv_eV (0, 0)) T (0, 0) 41 [(0, .ref (X.2.2.2 + t)), (1, .int v5)] [] M6 o) (fun _ _ => qv_none) (fun r7 qr7 v5 M6 => by
      unfold b_X10_costs_41
      refine qv_iload_n (pc := 41) g dX10_costs_41 rfl rfl ?_
      refine qv_if_eq (pc := 42) (tgt := 197) g dX10_costs_42 (by decide) ?_ ?_
      · refine qv_lv [] rfl ?_
        exact qk4 _
      · refine qv_iconst (v := 0) (pc := 45) g dX10_costs_45 (by decide) ?_
        refine qv_istore_n (pc := 46) (lv1 := [(1, .int 0), (0, .ref (X.2.2.2 + t))]) g dX10_costs_46 rfl (by decide) rfl ?_
        refine qv_iconst (v := 0) (pc := 47) g dX10_costs_47 (by decide) ?_
        refine qv_istore_n (pc := 48) (lv1 := [(2, .int 0), (1, .int 0), (0, .ref (X.2.2.2 + t))]) g dX10_costs_48 rfl (by decide) rfl ?_
        refine qv_join (fun (k10 : Int32 → qv_Mem → Option qv_Mem) => ∀ (v8 : Int32) (M9 : qv_Mem), qv_V G X 6 (qv_QM G X T qv_eV (0, 0)) T (0, 0) 194 [(0, .ref (X.2.2.2 + t)), (1, .int v8)] [] M9 (k10 v8 M9)) (fun v8 M9 => ?_) (fun k10 qk10 => ?_)
        · refine qv_goto (pc := 194) (tgt := 41) g dX10_costs_194 (by decide) ?_
          exact qr7 _ _
        refine qv_lv [2, 1, 0] rfl ?_
        exact qv_L3 (Vh := fun (v11 : Int32) (v12 : Int32) (M13 : qv_Mem) o => qv_V G X 6 (qv_QM G X T qv_eV (0, 0)) T (0, 0) 49 [(0, .ref (X.2.2.2 + t)), (1, .int v11), (2, .int v12)] [] M13 o) (fun _ _ _ => qv_none) (fun r14 qr14 v11 v12 M13 => by
          unfold b_X10_costs_49
          refine qv_iload_n (pc := 49) g dX10_costs_49 rfl rfl ?_
          refine qv_aload_n (pc := 50) g dX10_costs_50 rfl rfl ?_
          refine qv_gets (pc := 51) g fw_RX10_150 ht (by decide) (by decide) rfl dX10_costs_51 (fun v15 => ?_)
          refine qv_icmp_ge (pc := 54) (tgt := 194) g dX10_costs_54 (by decide) ?_ ?_
          · refine qv_lv [0, 1] rfl ?_
            exact qk10 _ _
          · refine qv_iconst (v := 0) (pc := 57) g dX10_costs_57 (by decide) ?_
            refine qv_istore_n (pc := 58) (lv1 := [(3, .int 0), (0, .ref (X.2.2.2 + t)), (1, .int v11), (2, .int v12)]) g dX10_costs_58 rfl (by decide) rfl ?_
            refine qv_join (fun (k18 : Int32 → qv_Mem → Option qv_Mem) => ∀ (v16 : Int32) (M17 : qv_Mem), qv_V G X 6 (qv_QM G X T qv_eV (0, 0)) T (0, 0) 188 [(0, .ref (X.2.2.2 + t)), (1, .int v16), (2, .int v12)] [] M17 (k18 v16 M17)) (fun v16 M17 => ?_) (fun k18 qk18 => ?_)
            · refine qv_iinc (pc := 188) (v := (v12 + 1)) (lv1 := [(2, .int (v12 + 1)), (0, .ref (X.2.2.2 + t)), (1, .int v16)]) g dX10_costs_188 rfl rfl (by decide) rfl ?_
              refine qv_goto (pc := 191) (tgt := 49) g dX10_costs_191 (by decide) ?_
              refine qv_lv [1, 2, 0] rfl ?_
              exact qr14 _ _ _
            refine qv_lv [1, 2, 3, 0] rfl ?_
            exact qv_L3 (Vh := fun (v19 : Int32) (v20 : Int32) (M21 : qv_Mem) o => qv_V G X 6 (qv_QM G X T qv_eV (0, 0)) T (0, 0) 59 [(0, .ref (X.2.2.2 + t)), (1, .int v19), (2, .int v12), (3, .int v20)] [] M21 o) (fun _ _ _ => qv_none) (fun r22 qr22 v19 v20 M21 => by
              unfold b_X10_costs_59
              refine qv_iload_n (pc := 59) g dX10_costs_59 rfl rfl ?_
              refine qv_bipush (v := 7) (pc := 60) g dX10_costs_60 (by decide) ?_
              refine qv_icmp_ge (pc := 62) (tgt := 188) g dX10_costs_62 (by decide) ?_ ?_
              · refine qv_lv [0, 1, 2] rfl ?_
                exact qk18 _ _
              · refine qv_aload_n (pc := 65) g dX10_costs_65 rfl rfl ?_
                have h1 : qv_is _ T 20 192 (qv_rf T t 15) := ht.to 15 (by decide) (by decide) rfl
                refine qv_getr (pc := 66) g fw_RX10_52 ht (by decide) (by decide) rfl dX10_costs_66 ?_
                refine qv_iload_n (pc := 69) g dX10_costs_69 rfl rfl ?_
                refine qv_iald (pc := 70) g h1 dX10_costs_70 (fun v23 => ?_)
                refine qv_ldc (pc := 71) g ki_RX10_171 dX10_costs_71 ?_
                refine qv_icmp_ge (pc := 73) (tgt := 188) g dX10_costs_73 (by decide) ?_ ?_
                · refine qv_lv [0, 1, 2] rfl ?_
                  exact qk18 _ _
                · refine qv_iload_n (pc := 76) g dX10_costs_76 rfl rfl ?_
                  refine qv_aI rfl (qv_cs (pc := 77) g (c_X10_isClifford (gl G) X d T _ M21) (qv_R hRm (by omega) (by decide)) ⟨Nat.zero_le _, Nat.zero_le _⟩ mw_X10_isClifford lk_RX10_163 st_X10_isClifford pd_X10_isClifford rfl (Nat.le_of_ble_eq_true rfl) dX10_costs_77) (fun v24 => ?_)
                  refine qv_join (fun (k27 : Int32 → qv_Mem → Option qv_Mem) => ∀ (v25 : Int32) (M26 : qv_Mem), qv_V G X 6 (qv_QM G X T qv_eV (0, 0)) T (0, 0) 182 [(0, .ref (X.2.2.2 + t)), (1, .int v25), (2, .int v12), (3, .int v20)] [] M26 (k27 v25 M26)) (fun v25 M26 => ?_) (fun k27 qk27 => ?_)
                  · refine qv_iinc (pc := 182) (v := (v20 + 1)) (lv1 := [(3, .int (v20 + 1)), (0, .ref (X.2.2.2 + t)), (1, .int v25), (2, .int v12)]) g dX10_costs_182 rfl rfl (by decide) rfl ?_
                    refine qv_goto (pc := 185) (tgt := 59) g dX10_costs_185 (by decide) ?_
                    refine qv_lv [1, 2, 3, 0] rfl ?_
                    exact qr22 _ _ _
                  refine qv_if_ne (pc := 80) (tgt := 86) g dX10_costs_80 (by decide) ?_ ?_
                  · refine qv_aload_n (pc := 86) g dX10_costs_86 rfl rfl ?_
                    have h2 : qv_is _ T 20 1344 (qv_rf T t 12) := ht.to 12 (by decide) (by decide) rfl
                    refine qv_getr (pc := 87) g fw_RX10_46 ht (by decide) (by decide) rfl dX10_costs_87 ?_
                    refine qv_bipush (v := 7) (pc := 90) g dX10_costs_90 (by decide) ?_
                    refine qv_iload_n (pc := 92) g dX10_costs_92 rfl rfl ?_
                    refine qv_imul (pc := 93) g dX10_costs_93 ?_
                    refine qv_iload_n (pc := 94) g dX10_costs_94 rfl rfl ?_
                    refine qv_iadd (pc := 95) g dX10_costs_95 ?_
                    refine qv_iald (pc := 96) g h2 dX10_costs_96 (fun v28 => ?_)
                    refine qv_istore (pc := 97) (lv1 := [(4, .int v28), (0, .ref (X.2.2.2 + t)), (1, .int v19), (2, .int v12), (3, .int v20)]) g dX10_costs_97 (by decide) rfl ?_
                    refine qv_aload_n (pc := 99) g dX10_costs_99 rfl rfl ?_
                    refine qv_getr (pc := 100) g fw_RX10_52 ht (by decide) (by decide) rfl dX10_costs_100 ?_
                    refine qv_iload_n (pc := 103) g dX10_costs_103 rfl rfl ?_
                    refine qv_iald (pc := 104) g h1 dX10_costs_104 (fun v29 => ?_)
                    refine qv_aload_n (pc := 105) g dX10_costs_105 rfl rfl ?_
                    have h3 : qv_is _ T 20 7 (qv_rf T t 3) := ht.to 3 (by decide) (by decide) rfl
                    refine qv_getr (pc := 106) g fw_RX10_21 ht (by decide) (by decide) rfl dX10_costs_106 ?_
                    refine qv_iload_n (pc := 109) g dX10_costs_109 rfl rfl ?_
                    refine qv_iald (pc := 110) g h3 dX10_costs_110 (fun v30 => ?_)
                    refine qv_iadd (pc := 111) g dX10_costs_111 ?_
                    refine qv_istore (pc := 112) (lv1 := [(5, .int (v29 + v30)), (4, .int v28), (0, .ref (X.2.2.2 + t)), (1, .int v19), (2, .int v12), (3, .int v20)]) g dX10_costs_112 (by decide) rfl ?_
                    refine qv_iload (pc := 114) g dX10_costs_114 rfl ?_
                    refine qv_aload_n (pc := 116) g dX10_costs_116 rfl rfl ?_
                    refine qv_getr (pc := 117) g fw_RX10_52 ht (by decide) (by decide) rfl dX10_costs_117 ?_
                    refine qv_iload (pc := 120) g dX10_costs_120 rfl ?_
                    refine qv_iald (pc := 122) g h1 dX10_costs_122 (fun v31 => ?_)
                    refine qv_join (fun (k32 : Unit → Option qv_Mem) => ∀ (_ : Unit), qv_V G X 6 (qv_QM G X T qv_eV (0, 0)) T (0, 0) 156 [(0, .ref (X.2.2.2 + t)), (2, .int v12), (3, .int v20), (4, .int v28), (5, .int (v29 + v30))] [] M21 (k32 ())) (fun _ => ?_) (fun k32 qk32 => ?_)
                    · refine qv_aload_n (pc := 156) g dX10_costs_156 rfl rfl ?_
                      refine qv_getr (pc := 157) g fw_RX10_52 ht (by decide) (by decide) rfl dX10_costs_157 ?_
                      refine qv_iload (pc := 160) g dX10_costs_160 rfl ?_
                      refine qv_iload (pc := 162) g dX10_costs_162 rfl ?_
                      refine qv_iast (pc := 164) g h1 dX10_costs_164 (fun M33 => ?_)
                      refine qv_aload_n (pc := 165) g dX10_costs_165 rfl rfl ?_
                      have h4 : qv_is _ T 20 192 (qv_rf T t 16) := ht.to 16 (by decide) (by decide) rfl
                      refine qv_getr (pc := 166) g fw_RX10_55 ht (by decide) (by decide) rfl dX10_costs_166 ?_
                      refine qv_iload (pc := 169) g dX10_costs_169 rfl ?_
                      refine qv_aload_n (pc := 171) g dX10_costs_171 rfl rfl ?_
                      refine qv_getr (pc := 172) g fw_RX10_55 ht (by decide) (by decide) rfl dX10_costs_172 ?_
                      refine qv_iload_n (pc := 175) g dX10_costs_175 rfl rfl ?_
                      refine qv_iald (pc := 176) g h4 dX10_costs_176 (fun v34 => ?_)
                      refine qv_iconst (v := 1) (pc := 177) g dX10_costs_177 (by decide) ?_
                      refine qv_iadd (pc := 178) g dX10_costs_178 ?_
                      refine qv_iast (pc := 179) g h4 dX10_costs_179 (fun M35 => ?_)
                      refine qv_iconst (v := 1) (pc := 180) g dX10_costs_180 (by decide) ?_
                      refine qv_istore_n (pc := 181) (lv1 := [(1, .int 1), (0, .ref (X.2.2.2 + t)), (2, .int v12), (3, .int v20), (4, .int v28), (5, .int (v29 + v30))]) g dX10_costs_181 rfl (by decide) rfl ?_
                      refine qv_lv [1, 0, 2, 3] rfl ?_
                      exact qk27 _ _
                    refine qv_icmp_lt (pc := 123) (tgt := 156) g dX10_costs_123 (by decide) ?_ ?_
                    · refine qv_lv [2, 4, 5, 1, 0] rfl ?_
                      exact qk32 ()
                    · refine qv_iload (pc := 126) g dX10_costs_126 rfl ?_
                      refine qv_aload_n (pc := 128) g dX10_costs_128 rfl rfl ?_
                      refine qv_getr (pc := 129) g fw_RX10_52 ht (by decide) (by decide) rfl dX10_costs_129 ?_
                      refine qv_iload (pc := 132) g dX10_costs_132 rfl ?_
                      refine qv_iald (pc := 134) g h1 dX10_costs_134 (fun v36 => ?_)
                      refine qv_icmp_ne (pc := 135) (tgt := 182) g dX10_costs_135 (by decide) ?_ ?_
                      · refine qv_lv [2, 3, 4, 5] rfl ?_
                        exact qk27 _ _
                      · refine qv_aload_n (pc := 138) g dX10_costs_138 rfl rfl ?_
                        have h5 : qv_is _ T 20 192 (qv_rf T t 16) := ht.to 16 (by decide) (by decide) rfl
                        refine qv_getr (pc := 139) g fw_RX10_55 ht (by decide) (by decide) rfl dX10_costs_139 ?_
                        refine qv_iload_n (pc := 142) g dX10_costs_142 rfl rfl ?_
                        refine qv_iald (pc := 143) g h5 dX10_costs_143 (fun v37 => ?_)
                        refine qv_iconst (v := 1) (pc := 144) g dX10_costs_144 (by decide) ?_
                        refine qv_iadd (pc := 145) g dX10_costs_145 ?_
                        refine qv_aload_n (pc := 146) g dX10_costs_146 rfl rfl ?_
                        refine qv_getr (pc := 147) g fw_RX10_55 ht (by decide) (by decide) rfl dX10_costs_147 ?_
                        refine qv_iload (pc := 150) g dX10_costs_150 rfl ?_
                        refine qv_iald (pc := 152) g h5 dX10_costs_152 (fun v38 => ?_)
                        refine qv_icmp_ge (pc := 153) (tgt := 182) g dX10_costs_153 (by decide) ?_ ?_
                        · refine qv_lv [2, 3, 4, 5] rfl ?_
                          exact qk27 _ _
                        · refine qv_lv [2, 4, 5, 1, 0] rfl ?_
                          exact qk32 ()
                  · refine qv_goto (pc := 83) (tgt := 182) g dX10_costs_83 (by decide) ?_
                    exact qk27 _ _) _ _ _ _) _ _ _ _) _ _ _
  refine qv_lv [1, 0] rfl ?_
  exact qv_L2 (Vh := fun (v39 : Int32) (M40 : qv_Mem) o => qv_V G X 6 (qv_QM G X T qv_eV (0, 0)) T (0, 0) 2 [(0, .ref (X.2.2.2 + t)), (1, .int v39)] [] M40 o) (fun _ _ => qv_none) (fun r41 qr41 v39 M40 => by
    unfold b_X10_costs_2
    refine qv_iload_n (pc := 2) g dX10_costs_2 rfl rfl ?_
    refine qv_aload_n (pc := 3) g dX10_costs_3 rfl rfl ?_
    refine qv_gets (pc := 4) g fw_RX10_150 ht (by decide) (by decide) rfl dX10_costs_4 (fun v42 => ?_)
    refine qv_icmp_ge (pc := 7) (tgt := 39) g dX10_costs_7 (by decide) ?_ ?_
    · refine qv_lv [0] rfl ?_
      exact qk2 _
    · refine qv_aload_n (pc := 10) g dX10_costs_10 rfl rfl ?_
      have h6 : qv_is _ T 20 192 (qv_rf T t 15) := ht.to 15 (by decide) (by decide) rfl
      refine qv_getr (pc := 11) g fw_RX10_52 ht (by decide) (by decide) rfl dX10_costs_11 ?_
      refine qv_iload_n (pc := 14) g dX10_costs_14 rfl rfl ?_
      refine qv_iload_n (pc := 15) g dX10_costs_15 rfl rfl ?_
      refine qv_join (fun (k44 : Int32 → Option qv_Mem) => ∀ (v43 : Int32), qv_V G X 6 (qv_QM G X T qv_eV (0, 0)) T (0, 0) 25 [(0, .ref (X.2.2.2 + t)), (1, .int v39)] [.int v43, .int v39, .ref (X.2.2.2 + (qv_rf T t 15))] M40 (k44 v43)) (fun v43 => ?_) (fun k44 qk44 => ?_)
      · refine qv_iast (pc := 25) g h6 dX10_costs_25 (fun M45 => ?_)
        refine qv_aload_n (pc := 26) g dX10_costs_26 rfl rfl ?_
        have h7 : qv_is _ T 20 192 (qv_rf T t 16) := ht.to 16 (by decide) (by decide) rfl
        refine qv_getr (pc := 27) g fw_RX10_55 ht (by decide) (by decide) rfl dX10_costs_27 ?_
        refine qv_iload_n (pc := 30) g dX10_costs_30 rfl rfl ?_
        refine qv_iconst (v := 0) (pc := 31) g dX10_costs_31 (by decide) ?_
        refine qv_iast (pc := 32) g h7 dX10_costs_32 (fun M46 => ?_)
        refine qv_iinc (pc := 33) (v := (v39 + 1)) (lv1 := [(1, .int (v39 + 1)), (0, .ref (X.2.2.2 + t))]) g dX10_costs_33 rfl rfl (by decide) rfl ?_
        refine qv_goto (pc := 36) (tgt := 2) g dX10_costs_36 (by decide) ?_
        refine qv_lv [1, 0] rfl ?_
        exact qr41 _ _
      refine qv_if_ne (pc := 16) (tgt := 23) g dX10_costs_16 (by decide) ?_ ?_
      · refine qv_ldc (pc := 23) g ki_RX10_171 dX10_costs_23 ?_
        exact qk44 _
      · refine qv_iconst (v := 0) (pc := 19) g dX10_costs_19 (by decide) ?_
        refine qv_goto (pc := 20) (tgt := 25) g dX10_costs_20 (by decide) ?_
        exact qk44 _) _ _ _

set_option maxHeartbeats 4000000 in
set_option maxRecDepth 100000 in
theorem c_X10_cheapestBehind (l : Launch) (X : qv_X) (d : Nat) (T : List qv_Ent) (t : Nat) (p1 : Int32) (M : qv_Mem) {nt : Nat} (ht : qv_is (nt + 1) T 10 29 t) : qv_Ok l X yX10_cheapestBehind cX10_cheapestBehind 4 none (d + 2) T M [.ref (X.2.2.2 + t), .int p1] qv_eV (f_X10_cheapestBehind T t p1 M) := by
  refine qv_mk (lv := [(0, .ref (X.2.2.2 + t)), (1, .int p1)]) (by decide) (Nat.le_of_ble_eq_true rfl) rfl (fun G hG hRm g hr => ?_)
  have g : qv_ok G X cX10_cheapestBehind RX10 4 := g
  unfold f_X10_cheapestBehind
  refine qv_aload_n (pc := 0) g dX10_cheapestBehind_0 rfl rfl ?_
  refine qv_aV (qv_cv (pc := 1) g (c_X10_costs (gl G) X d T _ M ht) (qv_R hRm (by omega) (by decide)) ⟨Nat.zero_le _, Nat.zero_le _⟩ mw_X10_costs lk_RX10_172 im_X10_costs se_X10_costs (by decide) rfl ht pd_X10_costs rfl (Nat.le_of_ble_eq_true rfl) dX10_cheapestBehind_1) (fun M1 => ?_)
  refine qv_iload_n (pc := 4) g dX10_cheapestBehind_4 rfl rfl ?_
  refine qv_istore_n (pc := 5) (lv1 := [(2, .int p1), (0, .ref (X.2.2.2 + t)), (1, .int p1)]) g dX10_cheapestBehind_5 rfl (by decide) rfl ?_
  refine qv_join (fun (k3 : qv_Mem → Option qv_Mem) => ∀ (M2 : qv_Mem), qv_V G X 4 (qv_QM G X T qv_eV (0, 0)) T (0, 0) 124 [] [] M2 (k3 M2)) (fun M2 => ?_) (fun k3 qk3 => ?_)
  · exact qv_vret (pc := 124) g hr rfl dX10_cheapestBehind_124
  refine qv_lv [1, 0] rfl ?_
  exact qv_L2 (Vh := fun (v4 : Int32) (M5 : qv_Mem) o => qv_V G X 4 (qv_QM G X T qv_eV (0, 0)) T (0, 0) 6 [(0, .ref (X.2.2.2 + t)), (2, .int v4)] [] M5 o) (fun _ _ => qv_none) (fun r6 qr6 v4 M5 => by
    unfold b_X10_cheapestBehind_6
    refine qv_aload_n (pc := 6) g dX10_cheapestBehind_6 rfl rfl ?_
    have h1 : qv_is _ T 20 192 (qv_rf T t 16) := ht.to 16 (by decide) (by decide) rfl
    refine qv_getr (pc := 7) g fw_RX10_55 ht (by decide) (by decide) rfl dX10_cheapestBehind_7 ?_
    refine qv_iload_n (pc := 10) g dX10_cheapestBehind_10 rfl rfl ?_
    refine qv_iald (pc := 11) g h1 dX10_cheapestBehind_11 (fun v7 => ?_)
    refine qv_if_le (pc := 12) (tgt := 124) g dX10_cheapestBehind_12 (by decide) ?_ ?_
    · refine qv_lv [] rfl ?_
      exact qk3 _
    · refine qv_iconst (v := 0) (pc := 15) g dX10_cheapestBehind_15 (by decide) ?_
      refine qv_istore_n (pc := 16) (lv1 := [(3, .int 0), (0, .ref (X.2.2.2 + t)), (2, .int v4)]) g dX10_cheapestBehind_16 rfl (by decide) rfl ?_
      refine qv_join (fun (k9 : Int32 → Option qv_Mem) => ∀ (v8 : Int32), qv_V G X 4 (qv_QM G X T qv_eV (0, 0)) T (0, 0) 89 [(0, .ref (X.2.2.2 + t)), (2, .int v4), (3, .int v8)] [] M5 (k9 v8)) (fun v8 => ?_) (fun k9 qk9 => ?_)
      · refine qv_aload_n (pc := 89) g dX10_cheapestBehind_89 rfl rfl ?_
        have h2 : qv_is _ T 20 600 (qv_rf T t 17) := ht.to 17 (by decide) (by decide) rfl
        refine qv_getr (pc := 90) g fw_RX10_58 ht (by decide) (by decide) rfl dX10_cheapestBehind_90 ?_
        refine qv_aload_n (pc := 93) g dX10_cheapestBehind_93 rfl rfl ?_
        refine qv_gets (pc := 94) g fw_RX10_175 ht (by decide) (by decide) rfl dX10_cheapestBehind_94 (fun v10 => ?_)
        refine qv_iload_n (pc := 97) g dX10_cheapestBehind_97 rfl rfl ?_
        refine qv_iast (pc := 98) g h2 dX10_cheapestBehind_98 (fun M11 => ?_)
        refine qv_aload_n (pc := 99) g dX10_cheapestBehind_99 rfl rfl ?_
        refine qv_dup (pc := 100) g dX10_cheapestBehind_100 rfl ?_
        refine qv_gets (pc := 101) g fw_RX10_175 ht (by decide) (by decide) rfl dX10_cheapestBehind_101 (fun v12 => ?_)
        refine qv_iconst (v := 1) (pc := 104) g dX10_cheapestBehind_104 (by decide) ?_
        refine qv_iadd (pc := 105) g dX10_cheapestBehind_105 ?_
        refine qv_puti (pc := 106) g pw_RX10_175 ht (by decide) (by decide) rfl dX10_cheapestBehind_106 (fun M13 => ?_)
        refine qv_aload_n (pc := 109) g dX10_cheapestBehind_109 rfl rfl ?_
        have h3 : qv_is _ T 20 1344 (qv_rf T t 13) := ht.to 13 (by decide) (by decide) rfl
        refine qv_getr (pc := 110) g fw_RX10_49 ht (by decide) (by decide) rfl dX10_cheapestBehind_110 ?_
        refine qv_bipush (v := 7) (pc := 113) g dX10_cheapestBehind_113 (by decide) ?_
        refine qv_iload_n (pc := 115) g dX10_cheapestBehind_115 rfl rfl ?_
        refine qv_imul (pc := 116) g dX10_cheapestBehind_116 ?_
        refine qv_iload_n (pc := 117) g dX10_cheapestBehind_117 rfl rfl ?_
        refine qv_iadd (pc := 118) g dX10_cheapestBehind_118 ?_
        refine qv_iald (pc := 119) g h3 dX10_cheapestBehind_119 (fun v14 => ?_)
        refine qv_istore_n (pc := 120) (lv1 := [(2, .int v14), (0, .ref (X.2.2.2 + t)), (3, .int v8)]) g dX10_cheapestBehind_120 rfl (by decide) rfl ?_
        refine qv_goto (pc := 121) (tgt := 6) g dX10_cheapestBehind_121 (by decide) ?_
        refine qv_lv [1, 0] rfl ?_
        exact qr6 _ _
      refine qv_lv [1, 2, 0] rfl ?_
      exact qv_L1 (Vh := fun (v15 : Int32) o => qv_V G X 4 (qv_QM G X T qv_eV (0, 0)) T (0, 0) 17 [(0, .ref (X.2.2.2 + t)), (2, .int v4), (3, .int v15)] [] M5 o) (fun _ => qv_none) (fun r16 qr16 v15 => by
        unfold b_X10_cheapestBehind_17
        refine qv_iload_n (pc := 17) g dX10_cheapestBehind_17 rfl rfl ?_
        refine qv_aI rfl (qv_cs (pc := 18) g (c_X10_isClifford (gl G) X (d + 1) T _ M5) (qv_R hRm (by omega) (by decide)) ⟨Nat.zero_le _, Nat.zero_le _⟩ mw_X10_isClifford lk_RX10_163 st_X10_isClifford pd_X10_isClifford rfl (Nat.le_of_ble_eq_true rfl) dX10_cheapestBehind_18) (fun v17 => ?_)
        refine qv_join (fun (k18 : Unit → Option qv_Mem) => ∀ (_ : Unit), qv_V G X 4 (qv_QM G X T qv_eV (0, 0)) T (0, 0) 83 [(0, .ref (X.2.2.2 + t)), (2, .int v4), (3, .int v15)] [] M5 (k18 ())) (fun _ => ?_) (fun k18 qk18 => ?_)
        · refine qv_iinc (pc := 83) (v := (v15 + 1)) (lv1 := [(3, .int (v15 + 1)), (0, .ref (X.2.2.2 + t)), (2, .int v4)]) g dX10_cheapestBehind_83 rfl rfl (by decide) rfl ?_
          refine qv_goto (pc := 86) (tgt := 17) g dX10_cheapestBehind_86 (by decide) ?_
          refine qv_lv [1, 2, 0] rfl ?_
          exact qr16 _
        refine qv_if_eq (pc := 21) (tgt := 83) g dX10_cheapestBehind_21 (by decide) ?_ ?_
        · exact qk18 ()
        · refine qv_aload_n (pc := 24) g dX10_cheapestBehind_24 rfl rfl ?_
          have h4 : qv_is _ T 20 192 (qv_rf T t 15) := ht.to 15 (by decide) (by decide) rfl
          refine qv_getr (pc := 25) g fw_RX10_52 ht (by decide) (by decide) rfl dX10_cheapestBehind_25 ?_
          refine qv_aload_n (pc := 28) g dX10_cheapestBehind_28 rfl rfl ?_
          have h5 : qv_is _ T 20 1344 (qv_rf T t 13) := ht.to 13 (by decide) (by decide) rfl
          refine qv_getr (pc := 29) g fw_RX10_49 ht (by decide) (by decide) rfl dX10_cheapestBehind_29 ?_
          refine qv_bipush (v := 7) (pc := 32) g dX10_cheapestBehind_32 (by decide) ?_
          refine qv_iload_n (pc := 34) g dX10_cheapestBehind_34 rfl rfl ?_
          refine qv_imul (pc := 35) g dX10_cheapestBehind_35 ?_
          refine qv_iload_n (pc := 36) g dX10_cheapestBehind_36 rfl rfl ?_
          refine qv_iadd (pc := 37) g dX10_cheapestBehind_37 ?_
          refine qv_iald (pc := 38) g h5 dX10_cheapestBehind_38 (fun v19 => ?_)
          refine qv_iald (pc := 39) g h4 dX10_cheapestBehind_39 (fun v20 => ?_)
          refine qv_aload_n (pc := 40) g dX10_cheapestBehind_40 rfl rfl ?_
          have h6 : qv_is _ T 20 7 (qv_rf T t 3) := ht.to 3 (by decide) (by decide) rfl
          refine qv_getr (pc := 41) g fw_RX10_21 ht (by decide) (by decide) rfl dX10_cheapestBehind_41 ?_
          refine qv_iload_n (pc := 44) g dX10_cheapestBehind_44 rfl rfl ?_
          refine qv_iald (pc := 45) g h6 dX10_cheapestBehind_45 (fun v21 => ?_)
          refine qv_iadd (pc := 46) g dX10_cheapestBehind_46 ?_
          refine qv_aload_n (pc := 47) g dX10_cheapestBehind_47 rfl rfl ?_
          refine qv_getr (pc := 48) g fw_RX10_52 ht (by decide) (by decide) rfl dX10_cheapestBehind_48 ?_
          refine qv_iload_n (pc := 51) g dX10_cheapestBehind_51 rfl rfl ?_
          refine qv_iald (pc := 52) g h4 dX10_cheapestBehind_52 (fun v22 => ?_)
          refine qv_icmp_ne (pc := 53) (tgt := 83) g dX10_cheapestBehind_53 (by decide) ?_ ?_
          · exact qk18 ()
          · refine qv_aload_n (pc := 56) g dX10_cheapestBehind_56 rfl rfl ?_
            refine qv_getr (pc := 57) g fw_RX10_55 ht (by decide) (by decide) rfl dX10_cheapestBehind_57 ?_
            refine qv_aload_n (pc := 60) g dX10_cheapestBehind_60 rfl rfl ?_
            refine qv_getr (pc := 61) g fw_RX10_49 ht (by decide) (by decide) rfl dX10_cheapestBehind_61 ?_
            refine qv_bipush (v := 7) (pc := 64) g dX10_cheapestBehind_64 (by decide) ?_
            refine qv_iload_n (pc := 66) g dX10_cheapestBehind_66 rfl rfl ?_
            refine qv_imul (pc := 67) g dX10_cheapestBehind_67 ?_
            refine qv_iload_n (pc := 68) g dX10_cheapestBehind_68 rfl rfl ?_
            refine qv_iadd (pc := 69) g dX10_cheapestBehind_69 ?_
            refine qv_iald (pc := 70) g h5 dX10_cheapestBehind_70 (fun v23 => ?_)
            refine qv_iald (pc := 71) g h1 dX10_cheapestBehind_71 (fun v24 => ?_)
            refine qv_iconst (v := 1) (pc := 72) g dX10_cheapestBehind_72 (by decide) ?_
            refine qv_iadd (pc := 73) g dX10_cheapestBehind_73 ?_
            refine qv_aload_n (pc := 74) g dX10_cheapestBehind_74 rfl rfl ?_
            refine qv_getr (pc := 75) g fw_RX10_55 ht (by decide) (by decide) rfl dX10_cheapestBehind_75 ?_
            refine qv_iload_n (pc := 78) g dX10_cheapestBehind_78 rfl rfl ?_
            refine qv_iald (pc := 79) g h1 dX10_cheapestBehind_79 (fun v25 => ?_)
            refine qv_icmp_eq (pc := 80) (tgt := 89) g dX10_cheapestBehind_80 (by decide) ?_ ?_
            · exact qk9 _
            · exact qk18 ()) _ _) _ _ _

set_option maxHeartbeats 4000000 in
set_option maxRecDepth 100000 in
theorem c_X10_cheapest (l : Launch) (X : qv_X) (d : Nat) (T : List qv_Ent) (t : Nat) (p1 : Int32) (p2 : Int32) (M : qv_Mem) {nt : Nat} (ht : qv_is (nt + 1) T 10 29 t) : qv_Ok l X yX10_cheapest cX10_cheapest 3 (some .int) (d + 3) T M [.ref (X.2.2.2 + t), .int p1, .int p2] qv_eIM (f_X10_cheapest T t p1 p2 M) := by
  refine qv_mk (lv := [(0, .ref (X.2.2.2 + t)), (1, .int p1), (2, .int p2)]) (by decide) (Nat.le_of_ble_eq_true rfl) rfl (fun G hG hRm g hr => ?_)
  have g : qv_ok G X cX10_cheapest RX10 3 := g
  unfold f_X10_cheapest
  refine qv_aload_n (pc := 0) g dX10_cheapest_0 rfl rfl ?_
  refine qv_iload_n (pc := 1) g dX10_cheapest_1 rfl rfl ?_
  refine qv_aI rfl (qv_cv (pc := 2) g (c_X10_isNumber (gl G) X (d + 1) T _ _ M ht) (qv_R hRm (by omega) (by decide)) ⟨Nat.zero_le _, Nat.zero_le _⟩ mw_X10_isNumber lk_RX10_166 im_X10_isNumber se_X10_isNumber (by decide) rfl ht pd_X10_isNumber rfl (Nat.le_of_ble_eq_true rfl) dX10_cheapest_2) (fun v1 => ?_)
  refine qv_if_eq (pc := 5) (tgt := 14) g dX10_cheapest_5 (by decide) ?_ ?_
  · refine qv_iconst (v := (-1)) (pc := 14) g dX10_cheapest_14 (by decide) ?_
    exact qv_iret (pc := 15) g hr rfl dX10_cheapest_15
  · refine qv_iload_n (pc := 8) g dX10_cheapest_8 rfl rfl ?_
    refine qv_bipush (v := (-2)) (pc := 9) g dX10_cheapest_9 (by decide) ?_
    refine qv_icmp_ge (pc := 11) (tgt := 16) g dX10_cheapest_11 (by decide) ?_ ?_
    · refine qv_aload_n (pc := 16) g dX10_cheapest_16 rfl rfl ?_
      refine qv_iconst (v := 0) (pc := 17) g dX10_cheapest_17 (by decide) ?_
      refine qv_puti (pc := 18) g pw_RX10_175 ht (by decide) (by decide) rfl dX10_cheapest_18 (fun M2 => ?_)
      refine qv_aload_n (pc := 21) g dX10_cheapest_21 rfl rfl ?_
      refine qv_iload_n (pc := 22) g dX10_cheapest_22 rfl rfl ?_
      refine qv_aV (qv_cv (pc := 23) g (c_X10_cheapestBehind (gl G) X d T _ _ M2 ht) (qv_R hRm (by omega) (by decide)) ⟨Nat.zero_le _, Nat.zero_le _⟩ mw_X10_cheapestBehind lk_RX10_178 im_X10_cheapestBehind se_X10_cheapestBehind (by decide) rfl ht pd_X10_cheapestBehind rfl (Nat.le_of_ble_eq_true rfl) dX10_cheapest_23) (fun M3 => ?_)
      refine qv_iload_n (pc := 26) g dX10_cheapest_26 rfl rfl ?_
      refine qv_bipush (v := (-2)) (pc := 27) g dX10_cheapest_27 (by decide) ?_
      refine qv_icmp_ne (pc := 29) (tgt := 41) g dX10_cheapest_29 (by decide) ?_ ?_
      · refine qv_iload_n (pc := 41) g dX10_cheapest_41 rfl rfl ?_
        refine qv_iconst (v := (-1)) (pc := 42) g dX10_cheapest_42 (by decide) ?_
        refine qv_icmp_ne (pc := 43) (tgt := 53) g dX10_cheapest_43 (by decide) ?_ ?_
        · refine qv_iload_n (pc := 53) g dX10_cheapest_53 rfl rfl ?_
          refine qv_aload_n (pc := 54) g dX10_cheapest_54 rfl rfl ?_
          refine qv_gets (pc := 55) g fw_RX10_175 ht (by decide) (by decide) rfl dX10_cheapest_55 (fun v4 => ?_)
          refine qv_icmp_ge (pc := 58) (tgt := 70) g dX10_cheapest_58 (by decide) ?_ ?_
          · refine qv_bipush (v := (-2)) (pc := 70) g dX10_cheapest_70 (by decide) ?_
            exact qv_iret (pc := 72) g hr rfl dX10_cheapest_72
          · refine qv_aload_n (pc := 61) g dX10_cheapest_61 rfl rfl ?_
            have h1 : qv_is _ T 20 600 (qv_rf T t 17) := ht.to 17 (by decide) (by decide) rfl
            refine qv_getr (pc := 62) g fw_RX10_58 ht (by decide) (by decide) rfl dX10_cheapest_62 ?_
            refine qv_iload_n (pc := 65) g dX10_cheapest_65 rfl rfl ?_
            refine qv_iald (pc := 66) g h1 dX10_cheapest_66 (fun v5 => ?_)
            refine qv_goto (pc := 67) (tgt := 72) g dX10_cheapest_67 (by decide) ?_
            exact qv_iret (pc := 72) g hr rfl dX10_cheapest_72
        · refine qv_aload_n (pc := 46) g dX10_cheapest_46 rfl rfl ?_
          refine qv_gets (pc := 47) g fw_RX10_175 ht (by decide) (by decide) rfl dX10_cheapest_47 (fun v6 => ?_)
          refine qv_goto (pc := 50) (tgt := 72) g dX10_cheapest_50 (by decide) ?_
          exact qv_iret (pc := 72) g hr rfl dX10_cheapest_72
      · refine qv_aload_n (pc := 32) g dX10_cheapest_32 rfl rfl ?_
        have h2 : qv_is _ T 20 192 (qv_rf T t 15) := ht.to 15 (by decide) (by decide) rfl
        refine qv_getr (pc := 33) g fw_RX10_52 ht (by decide) (by decide) rfl dX10_cheapest_33 ?_
        refine qv_iload_n (pc := 36) g dX10_cheapest_36 rfl rfl ?_
        refine qv_iald (pc := 37) g h2 dX10_cheapest_37 (fun v7 => ?_)
        refine qv_goto (pc := 38) (tgt := 72) g dX10_cheapest_38 (by decide) ?_
        exact qv_iret (pc := 72) g hr rfl dX10_cheapest_72
    · refine qv_iconst (v := (-1)) (pc := 14) g dX10_cheapest_14 (by decide) ?_
      exact qv_iret (pc := 15) g hr rfl dX10_cheapest_15

set_option maxHeartbeats 4000000 in
set_option maxRecDepth 100000 in
theorem c_X10_isWord (l : Launch) (X : qv_X) (d : Nat) (T : List qv_Ent) (p0 : Int32) (M : qv_Mem)  : qv_Ok l X yX10_isWord cX10_isWord 1 (some .boolean) (d + 1) T M [.int p0] (qv_eI M) (f_X10_isWord p0) := by
  refine qv_mk (lv := [(0, .int p0)]) (by decide) (Nat.le_of_ble_eq_true rfl) rfl (fun G hG hRm g hr => ?_)
  have g : qv_ok G X cX10_isWord RX10 1 := g
  unfold f_X10_isWord
  refine qv_iload_n (pc := 0) g dX10_isWord_0 rfl rfl ?_
  refine qv_i2l (pc := 1) g dX10_isWord_1 ?_
  refine qv_lconst (v := 0) (pc := 2) g dX10_isWord_2 (by decide) ?_
  refine qv_ldc2 (pc := 3) g kl_RX10_96 dX10_isWord_3 ?_
  refine qv_aI rfl (qv_cs (pc := 6) g (c_X10_isIn (gl G) X d T _ _ _ M) (qv_R hRm (by omega) (by decide)) ⟨Nat.zero_le _, Nat.zero_le _⟩ mw_X10_isIn lk_RX10_120 st_X10_isIn pd_X10_isIn rfl (Nat.le_of_ble_eq_true rfl) dX10_isWord_6) (fun v1 => ?_)
  exact qv_zretg (pc := 9) g hr rfl dX10_isWord_9

