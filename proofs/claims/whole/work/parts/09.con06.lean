set_option maxHeartbeats 4000000 in
set_option maxRecDepth 100000 in
theorem c_X10_isOther (l : Launch) (X : qv_X) (d : Nat) (T : List qv_Ent) (t : Nat) (p1 : Int32) (M : qv_Mem) {nt : Nat} (ht : qv_is (nt + 1) T 10 29 t) : qv_Ok l X yX10_isOther cX10_isOther 4 (some .boolean) (d) T M [.ref (X.2.2.2 + t), .int p1] (qv_eI M) (f_X10_isOther T t p1 M) := by
  refine qv_mk (lv := [(0, .ref (X.2.2.2 + t)), (1, .int p1)]) (by decide) (Nat.le_of_ble_eq_true rfl) rfl (fun G hG hRm g hr => ?_)
  have g : qv_ok G X cX10_isOther RX10 4 := g
  unfold f_X10_isOther
  refine qv_aload_n (pc := 0) g dX10_isOther_0 rfl rfl ?_
  have h1 : qv_is _ T 20 3 (qv_rf T t 6) := ht.to 6 (by decide) (by decide) rfl
  refine qv_getr (pc := 1) g fw_RX10_31 ht (by decide) (by decide) rfl dX10_isOther_1 ?_
  refine qv_iload_n (pc := 4) g dX10_isOther_4 rfl rfl ?_
  refine qv_iald (pc := 5) g h1 dX10_isOther_5 (fun v1 => ?_)
  refine qv_aload_n (pc := 6) g dX10_isOther_6 rfl rfl ?_
  refine qv_gets (pc := 7) g fw_RX10_175 ht (by decide) (by decide) rfl dX10_isOther_7 (fun v2 => ?_)
  refine qv_join (fun (k4 : Int32 → Option Int32) => ∀ (v3 : Int32), qv_V G X 4 (qv_QM G X T (qv_eI M) (0, 0)) T (0, 0) 18 [(0, .ref (X.2.2.2 + t)), (1, .int p1)] [.int v3] M (k4 v3)) (fun v3 => ?_) (fun k4 qk4 => ?_)
  · refine qv_istore_n (pc := 18) (lv1 := [(2, .int v3), (0, .ref (X.2.2.2 + t)), (1, .int p1)]) g dX10_isOther_18 rfl (by decide) rfl ?_
    refine qv_iconst (v := 0) (pc := 19) g dX10_isOther_19 (by decide) ?_
    refine qv_istore_n (pc := 20) (lv1 := [(3, .int 0), (2, .int v3), (0, .ref (X.2.2.2 + t)), (1, .int p1)]) g dX10_isOther_20 rfl (by decide) rfl ?_
    refine qv_join (fun (k6 : Int32 → Option Int32) => ∀ (v5 : Int32), qv_V G X 4 (qv_QM G X T (qv_eI M) (0, 0)) T (0, 0) 65 [(2, .int v5)] [] M (k6 v5)) (fun v5 => ?_) (fun k6 qk6 => ?_)
    · refine qv_iload_n (pc := 65) g dX10_isOther_65 rfl rfl ?_
      exact qv_zretg (pc := 66) g hr rfl dX10_isOther_66
    refine qv_lv [2, 3, 1, 0] rfl ?_
    exact qv_L2 (Vh := fun (v7 : Int32) (v8 : Int32) o => qv_V G X 4 (qv_QM G X T (qv_eI M) (0, 0)) T (0, 0) 21 [(0, .ref (X.2.2.2 + t)), (1, .int p1), (2, .int v7), (3, .int v8)] [] M o) (fun _ _ => qv_none) (fun r9 qr9 v7 v8 => by
      unfold b_X10_isOther_21
      refine qv_iload_n (pc := 21) g dX10_isOther_21 rfl rfl ?_
      refine qv_aload_n (pc := 22) g dX10_isOther_22 rfl rfl ?_
      refine qv_gets (pc := 23) g fw_RX10_175 ht (by decide) (by decide) rfl dX10_isOther_23 (fun v10 => ?_)
      refine qv_icmp_ge (pc := 26) (tgt := 65) g dX10_isOther_26 (by decide) ?_ ?_
      · refine qv_lv [2] rfl ?_
        exact qk6 _
      · refine qv_iload_n (pc := 29) g dX10_isOther_29 rfl rfl ?_
        refine qv_if_ne (pc := 30) (tgt := 65) g dX10_isOther_30 (by decide) ?_ ?_
        · refine qv_lv [2] rfl ?_
          exact qk6 _
        · refine qv_aload_n (pc := 33) g dX10_isOther_33 rfl rfl ?_
          have h2 : qv_is _ T 20 180 (qv_rf T t 5) := ht.to 5 (by decide) (by decide) rfl
          refine qv_getr (pc := 34) g fw_RX10_28 ht (by decide) (by decide) rfl dX10_isOther_34 ?_
          refine qv_bipush (v := 60) (pc := 37) g dX10_isOther_37 (by decide) ?_
          refine qv_iload_n (pc := 39) g dX10_isOther_39 rfl rfl ?_
          refine qv_imul (pc := 40) g dX10_isOther_40 ?_
          refine qv_iload_n (pc := 41) g dX10_isOther_41 rfl rfl ?_
          refine qv_iadd (pc := 42) g dX10_isOther_42 ?_
          refine qv_iald (pc := 43) g h2 dX10_isOther_43 (fun v11 => ?_)
          refine qv_aload_n (pc := 44) g dX10_isOther_44 rfl rfl ?_
          have h3 : qv_is _ T 20 600 (qv_rf T t 17) := ht.to 17 (by decide) (by decide) rfl
          refine qv_getr (pc := 45) g fw_RX10_58 ht (by decide) (by decide) rfl dX10_isOther_45 ?_
          refine qv_iload_n (pc := 48) g dX10_isOther_48 rfl rfl ?_
          refine qv_iald (pc := 49) g h3 dX10_isOther_49 (fun v12 => ?_)
          refine qv_join (fun (k14 : Int32 → Option Int32) => ∀ (v13 : Int32), qv_V G X 4 (qv_QM G X T (qv_eI M) (0, 0)) T (0, 0) 58 [(0, .ref (X.2.2.2 + t)), (1, .int p1), (3, .int v8)] [.int v13] M (k14 v13)) (fun v13 => ?_) (fun k14 qk14 => ?_)
          · refine qv_istore_n (pc := 58) (lv1 := [(2, .int v13), (0, .ref (X.2.2.2 + t)), (1, .int p1), (3, .int v8)]) g dX10_isOther_58 rfl (by decide) rfl ?_
            refine qv_iinc (pc := 59) (v := (v8 + 1)) (lv1 := [(3, .int (v8 + 1)), (2, .int v13), (0, .ref (X.2.2.2 + t)), (1, .int p1)]) g dX10_isOther_59 rfl rfl (by decide) rfl ?_
            refine qv_goto (pc := 62) (tgt := 21) g dX10_isOther_62 (by decide) ?_
            refine qv_lv [2, 3, 1, 0] rfl ?_
            exact qr9 _ _
          refine qv_icmp_eq (pc := 50) (tgt := 57) g dX10_isOther_50 (by decide) ?_ ?_
          · refine qv_iconst (v := 0) (pc := 57) g dX10_isOther_57 (by decide) ?_
            refine qv_lv [0, 1, 3] rfl ?_
            exact qk14 _
          · refine qv_iconst (v := 1) (pc := 53) g dX10_isOther_53 (by decide) ?_
            refine qv_goto (pc := 54) (tgt := 58) g dX10_isOther_54 (by decide) ?_
            refine qv_lv [0, 1, 3] rfl ?_
            exact qk14 _) _ _ _
  refine qv_icmp_eq (pc := 10) (tgt := 17) g dX10_isOther_10 (by decide) ?_ ?_
  · refine qv_iconst (v := 0) (pc := 17) g dX10_isOther_17 (by decide) ?_
    exact qk4 _
  · refine qv_iconst (v := 1) (pc := 13) g dX10_isOther_13 (by decide) ?_
    refine qv_goto (pc := 14) (tgt := 18) g dX10_isOther_14 (by decide) ?_
    exact qk4 _

set_option maxHeartbeats 4000000 in
set_option maxRecDepth 100000 in
theorem c_X10_becomes (l : Launch) (X : qv_X) (d : Nat) (T : List qv_Ent) (t : Nat) (p1 : Int32) (M : qv_Mem) {nt : Nat} (ht : qv_is (nt + 1) T 10 29 t) : qv_Ok l X yX10_becomes cX10_becomes 4 (some .int) (d + 1) T M [.ref (X.2.2.2 + t), .int p1] qv_eIM (f_X10_becomes T t p1 M) := by
  refine qv_mk (lv := [(0, .ref (X.2.2.2 + t)), (1, .int p1)]) (by decide) (Nat.le_of_ble_eq_true rfl) rfl (fun G hG hRm g hr => ?_)
  have g : qv_ok G X cX10_becomes RX10 4 := g
  unfold f_X10_becomes
  refine qv_aload_n (pc := 0) g dX10_becomes_0 rfl rfl ?_
  refine qv_iload_n (pc := 1) g dX10_becomes_1 rfl rfl ?_
  refine qv_aI rfl (qv_cv (pc := 2) g (c_X10_isOther (gl G) X d T _ _ M ht) (qv_R hRm (by omega) (by decide)) ⟨Nat.zero_le _, Nat.zero_le _⟩ mw_X10_isOther lk_RX10_181 im_X10_isOther se_X10_isOther (by decide) rfl ht pd_X10_isOther rfl (Nat.le_of_ble_eq_true rfl) dX10_becomes_2) (fun v1 => ?_)
  refine qv_if_ne (pc := 5) (tgt := 13) g dX10_becomes_5 (by decide) ?_ ?_
  · refine qv_aload_n (pc := 13) g dX10_becomes_13 rfl rfl ?_
    refine qv_gets (pc := 14) g fw_RX10_184 ht (by decide) (by decide) rfl dX10_becomes_14 (fun v2 => ?_)
    refine qv_bipush (v := 8) (pc := 17) g dX10_becomes_17 (by decide) ?_
    refine qv_join (fun (k4 : qv_Mem → Option (Int32 × qv_Mem)) => ∀ (M3 : qv_Mem), qv_V G X 4 (qv_QM G X T qv_eIM (0, 0)) T (0, 0) 112 [(0, .ref (X.2.2.2 + t)), (1, .int p1)] [] M3 (k4 M3)) (fun M3 => ?_) (fun k4 qk4 => ?_)
    · refine qv_aload_n (pc := 112) g dX10_becomes_112 rfl rfl ?_
      have h1 : qv_is _ T 20 8 (qv_rf T t 21) := ht.to 21 (by decide) (by decide) rfl
      refine qv_getr (pc := 113) g fw_RX10_67 ht (by decide) (by decide) rfl dX10_becomes_113 ?_
      refine qv_aload_n (pc := 116) g dX10_becomes_116 rfl rfl ?_
      refine qv_gets (pc := 117) g fw_RX10_184 ht (by decide) (by decide) rfl dX10_becomes_117 (fun v5 => ?_)
      refine qv_iload_n (pc := 120) g dX10_becomes_120 rfl rfl ?_
      refine qv_iast (pc := 121) g h1 dX10_becomes_121 (fun M6 => ?_)
      refine qv_aload_n (pc := 122) g dX10_becomes_122 rfl rfl ?_
      have h2 : qv_is _ T 20 8 (qv_rf T t 20) := ht.to 20 (by decide) (by decide) rfl
      refine qv_getr (pc := 123) g fw_RX10_64 ht (by decide) (by decide) rfl dX10_becomes_123 ?_
      refine qv_aload_n (pc := 126) g dX10_becomes_126 rfl rfl ?_
      refine qv_gets (pc := 127) g fw_RX10_184 ht (by decide) (by decide) rfl dX10_becomes_127 (fun v7 => ?_)
      refine qv_aload_n (pc := 130) g dX10_becomes_130 rfl rfl ?_
      have h3 : qv_is _ T 20 3 (qv_rf T t 6) := ht.to 6 (by decide) (by decide) rfl
      refine qv_getr (pc := 131) g fw_RX10_31 ht (by decide) (by decide) rfl dX10_becomes_131 ?_
      refine qv_iload_n (pc := 134) g dX10_becomes_134 rfl rfl ?_
      refine qv_iald (pc := 135) g h3 dX10_becomes_135 (fun v8 => ?_)
      refine qv_iast (pc := 136) g h2 dX10_becomes_136 (fun M9 => ?_)
      refine qv_iconst (v := 0) (pc := 137) g dX10_becomes_137 (by decide) ?_
      refine qv_istore_n (pc := 138) (lv1 := [(2, .int 0), (0, .ref (X.2.2.2 + t)), (1, .int p1)]) g dX10_becomes_138 rfl (by decide) rfl ?_
      refine qv_join (fun (k11 : qv_Mem → Option (Int32 × qv_Mem)) => ∀ (M10 : qv_Mem), qv_V G X 4 (qv_QM G X T qv_eIM (0, 0)) T (0, 0) 176 [(0, .ref (X.2.2.2 + t)), (1, .int p1)] [] M10 (k11 M10)) (fun M10 => ?_) (fun k11 qk11 => ?_)
      · refine qv_aload_n (pc := 176) g dX10_becomes_176 rfl rfl ?_
        refine qv_dup (pc := 177) g dX10_becomes_177 rfl ?_
        refine qv_gets (pc := 178) g fw_RX10_184 ht (by decide) (by decide) rfl dX10_becomes_178 (fun v12 => ?_)
        refine qv_iconst (v := 1) (pc := 181) g dX10_becomes_181 (by decide) ?_
        refine qv_iadd (pc := 182) g dX10_becomes_182 ?_
        refine qv_puti (pc := 183) g pw_RX10_184 ht (by decide) (by decide) rfl dX10_becomes_183 (fun M13 => ?_)
        refine qv_aload_n (pc := 186) g dX10_becomes_186 rfl rfl ?_
        refine qv_getr (pc := 187) g fw_RX10_31 ht (by decide) (by decide) rfl dX10_becomes_187 ?_
        refine qv_iload_n (pc := 190) g dX10_becomes_190 rfl rfl ?_
        refine qv_aload_n (pc := 191) g dX10_becomes_191 rfl rfl ?_
        refine qv_gets (pc := 192) g fw_RX10_175 ht (by decide) (by decide) rfl dX10_becomes_192 (fun v14 => ?_)
        refine qv_iast (pc := 195) g h3 dX10_becomes_195 (fun M15 => ?_)
        refine qv_iconst (v := 0) (pc := 196) g dX10_becomes_196 (by decide) ?_
        refine qv_istore_n (pc := 197) (lv1 := [(2, .int 0), (0, .ref (X.2.2.2 + t)), (1, .int p1)]) g dX10_becomes_197 rfl (by decide) rfl ?_
        refine qv_join (fun (k17 : qv_Mem → Option (Int32 × qv_Mem)) => ∀ (M16 : qv_Mem), qv_V G X 4 (qv_QM G X T qv_eIM (0, 0)) T (0, 0) 229 [(0, .ref (X.2.2.2 + t))] [] M16 (k17 M16)) (fun M16 => ?_) (fun k17 qk17 => ?_)
        · refine qv_aload_n (pc := 229) g dX10_becomes_229 rfl rfl ?_
          refine qv_gets (pc := 230) g fw_RX10_175 ht (by decide) (by decide) rfl dX10_becomes_230 (fun v18 => ?_)
          exact qv_iret (pc := 233) g hr rfl dX10_becomes_233
        refine qv_lv [1, 2, 0] rfl ?_
        exact qv_L2 (Vh := fun (v19 : Int32) (M20 : qv_Mem) o => qv_V G X 4 (qv_QM G X T qv_eIM (0, 0)) T (0, 0) 198 [(0, .ref (X.2.2.2 + t)), (1, .int p1), (2, .int v19)] [] M20 o) (fun _ _ => qv_none) (fun r21 qr21 v19 M20 => by
          unfold b_X10_becomes_198
          refine qv_iload_n (pc := 198) g dX10_becomes_198 rfl rfl ?_
          refine qv_aload_n (pc := 199) g dX10_becomes_199 rfl rfl ?_
          refine qv_gets (pc := 200) g fw_RX10_175 ht (by decide) (by decide) rfl dX10_becomes_200 (fun v22 => ?_)
          refine qv_icmp_ge (pc := 203) (tgt := 229) g dX10_becomes_203 (by decide) ?_ ?_
          · refine qv_lv [0] rfl ?_
            exact qk17 _
          · refine qv_aload_n (pc := 206) g dX10_becomes_206 rfl rfl ?_
            have h4 : qv_is _ T 20 180 (qv_rf T t 5) := ht.to 5 (by decide) (by decide) rfl
            refine qv_getr (pc := 207) g fw_RX10_28 ht (by decide) (by decide) rfl dX10_becomes_207 ?_
            refine qv_bipush (v := 60) (pc := 210) g dX10_becomes_210 (by decide) ?_
            refine qv_iload_n (pc := 212) g dX10_becomes_212 rfl rfl ?_
            refine qv_imul (pc := 213) g dX10_becomes_213 ?_
            refine qv_iload_n (pc := 214) g dX10_becomes_214 rfl rfl ?_
            refine qv_iadd (pc := 215) g dX10_becomes_215 ?_
            refine qv_aload_n (pc := 216) g dX10_becomes_216 rfl rfl ?_
            have h5 : qv_is _ T 20 600 (qv_rf T t 17) := ht.to 17 (by decide) (by decide) rfl
            refine qv_getr (pc := 217) g fw_RX10_58 ht (by decide) (by decide) rfl dX10_becomes_217 ?_
            refine qv_iload_n (pc := 220) g dX10_becomes_220 rfl rfl ?_
            refine qv_iald (pc := 221) g h5 dX10_becomes_221 (fun v23 => ?_)
            refine qv_iast (pc := 222) g h4 dX10_becomes_222 (fun M24 => ?_)
            refine qv_iinc (pc := 223) (v := (v19 + 1)) (lv1 := [(2, .int (v19 + 1)), (0, .ref (X.2.2.2 + t)), (1, .int p1)]) g dX10_becomes_223 rfl rfl (by decide) rfl ?_
            refine qv_goto (pc := 226) (tgt := 198) g dX10_becomes_226 (by decide) ?_
            refine qv_lv [1, 2, 0] rfl ?_
            exact qr21 _ _) _ _ _
      refine qv_lv [1, 2, 0] rfl ?_
      exact qv_L2 (Vh := fun (v25 : Int32) (M26 : qv_Mem) o => qv_V G X 4 (qv_QM G X T qv_eIM (0, 0)) T (0, 0) 139 [(0, .ref (X.2.2.2 + t)), (1, .int p1), (2, .int v25)] [] M26 o) (fun _ _ => qv_none) (fun r27 qr27 v25 M26 => by
        unfold b_X10_becomes_139
        refine qv_iload_n (pc := 139) g dX10_becomes_139 rfl rfl ?_
        refine qv_bipush (v := 60) (pc := 140) g dX10_becomes_140 (by decide) ?_
        refine qv_icmp_ge (pc := 142) (tgt := 176) g dX10_becomes_142 (by decide) ?_ ?_
        · refine qv_lv [0, 1] rfl ?_
          exact qk11 _
        · refine qv_aload_n (pc := 145) g dX10_becomes_145 rfl rfl ?_
          have h6 : qv_is _ T 20 480 (qv_rf T t 19) := ht.to 19 (by decide) (by decide) rfl
          refine qv_getr (pc := 146) g fw_RX10_61 ht (by decide) (by decide) rfl dX10_becomes_146 ?_
          refine qv_bipush (v := 60) (pc := 149) g dX10_becomes_149 (by decide) ?_
          refine qv_aload_n (pc := 151) g dX10_becomes_151 rfl rfl ?_
          refine qv_gets (pc := 152) g fw_RX10_184 ht (by decide) (by decide) rfl dX10_becomes_152 (fun v28 => ?_)
          refine qv_imul (pc := 155) g dX10_becomes_155 ?_
          refine qv_iload_n (pc := 156) g dX10_becomes_156 rfl rfl ?_
          refine qv_iadd (pc := 157) g dX10_becomes_157 ?_
          refine qv_aload_n (pc := 158) g dX10_becomes_158 rfl rfl ?_
          have h7 : qv_is _ T 20 180 (qv_rf T t 5) := ht.to 5 (by decide) (by decide) rfl
          refine qv_getr (pc := 159) g fw_RX10_28 ht (by decide) (by decide) rfl dX10_becomes_159 ?_
          refine qv_bipush (v := 60) (pc := 162) g dX10_becomes_162 (by decide) ?_
          refine qv_iload_n (pc := 164) g dX10_becomes_164 rfl rfl ?_
          refine qv_imul (pc := 165) g dX10_becomes_165 ?_
          refine qv_iload_n (pc := 166) g dX10_becomes_166 rfl rfl ?_
          refine qv_iadd (pc := 167) g dX10_becomes_167 ?_
          refine qv_iald (pc := 168) g h7 dX10_becomes_168 (fun v29 => ?_)
          refine qv_iast (pc := 169) g h6 dX10_becomes_169 (fun M30 => ?_)
          refine qv_iinc (pc := 170) (v := (v25 + 1)) (lv1 := [(2, .int (v25 + 1)), (0, .ref (X.2.2.2 + t)), (1, .int p1)]) g dX10_becomes_170 rfl rfl (by decide) rfl ?_
          refine qv_goto (pc := 173) (tgt := 139) g dX10_becomes_173 (by decide) ?_
          refine qv_lv [1, 2, 0] rfl ?_
          exact qr27 _ _) _ _ _
    refine qv_icmp_ne (pc := 19) (tgt := 112) g dX10_becomes_19 (by decide) ?_ ?_
    · exact qk4 _
    · refine qv_iconst (v := 1) (pc := 22) g dX10_becomes_22 (by decide) ?_
      refine qv_istore_n (pc := 23) (lv1 := [(2, .int 1), (0, .ref (X.2.2.2 + t)), (1, .int p1)]) g dX10_becomes_23 rfl (by decide) rfl ?_
      refine qv_join (fun (k32 : qv_Mem → Option (Int32 × qv_Mem)) => ∀ (M31 : qv_Mem), qv_V G X 4 (qv_QM G X T qv_eIM (0, 0)) T (0, 0) 102 [(0, .ref (X.2.2.2 + t)), (1, .int p1)] [] M31 (k32 M31)) (fun M31 => ?_) (fun k32 qk32 => ?_)
      · refine qv_aload_n (pc := 102) g dX10_becomes_102 rfl rfl ?_
        refine qv_dup (pc := 103) g dX10_becomes_103 rfl ?_
        refine qv_gets (pc := 104) g fw_RX10_184 ht (by decide) (by decide) rfl dX10_becomes_104 (fun v33 => ?_)
        refine qv_iconst (v := 1) (pc := 107) g dX10_becomes_107 (by decide) ?_
        refine qv_isub (pc := 108) g dX10_becomes_108 ?_
        refine qv_puti (pc := 109) g pw_RX10_184 ht (by decide) (by decide) rfl dX10_becomes_109 (fun M34 => ?_)
        exact qk4 _
      refine qv_lv [1, 2, 0] rfl ?_
      exact qv_L2 (Vh := fun (v35 : Int32) (M36 : qv_Mem) o => qv_V G X 4 (qv_QM G X T qv_eIM (0, 0)) T (0, 0) 24 [(0, .ref (X.2.2.2 + t)), (1, .int p1), (2, .int v35)] [] M36 o) (fun _ _ => qv_none) (fun r37 qr37 v35 M36 => by
        unfold b_X10_becomes_24
        refine qv_iload_n (pc := 24) g dX10_becomes_24 rfl rfl ?_
        refine qv_bipush (v := 8) (pc := 25) g dX10_becomes_25 (by decide) ?_
        refine qv_icmp_ge (pc := 27) (tgt := 102) g dX10_becomes_27 (by decide) ?_ ?_
        · refine qv_lv [0, 1] rfl ?_
          exact qk32 _
        · refine qv_aload_n (pc := 30) g dX10_becomes_30 rfl rfl ?_
          have h8 : qv_is _ T 20 8 (qv_rf T t 21) := ht.to 21 (by decide) (by decide) rfl
          refine qv_getr (pc := 31) g fw_RX10_67 ht (by decide) (by decide) rfl dX10_becomes_31 ?_
          refine qv_iload_n (pc := 34) g dX10_becomes_34 rfl rfl ?_
          refine qv_iconst (v := 1) (pc := 35) g dX10_becomes_35 (by decide) ?_
          refine qv_isub (pc := 36) g dX10_becomes_36 ?_
          refine qv_aload_n (pc := 37) g dX10_becomes_37 rfl rfl ?_
          refine qv_getr (pc := 38) g fw_RX10_67 ht (by decide) (by decide) rfl dX10_becomes_38 ?_
          refine qv_iload_n (pc := 41) g dX10_becomes_41 rfl rfl ?_
          refine qv_iald (pc := 42) g h8 dX10_becomes_42 (fun v38 => ?_)
          refine qv_iast (pc := 43) g h8 dX10_becomes_43 (fun M39 => ?_)
          refine qv_aload_n (pc := 44) g dX10_becomes_44 rfl rfl ?_
          have h9 : qv_is _ T 20 8 (qv_rf T t 20) := ht.to 20 (by decide) (by decide) rfl
          refine qv_getr (pc := 45) g fw_RX10_64 ht (by decide) (by decide) rfl dX10_becomes_45 ?_
          refine qv_iload_n (pc := 48) g dX10_becomes_48 rfl rfl ?_
          refine qv_iconst (v := 1) (pc := 49) g dX10_becomes_49 (by decide) ?_
          refine qv_isub (pc := 50) g dX10_becomes_50 ?_
          refine qv_aload_n (pc := 51) g dX10_becomes_51 rfl rfl ?_
          refine qv_getr (pc := 52) g fw_RX10_64 ht (by decide) (by decide) rfl dX10_becomes_52 ?_
          refine qv_iload_n (pc := 55) g dX10_becomes_55 rfl rfl ?_
          refine qv_iald (pc := 56) g h9 dX10_becomes_56 (fun v40 => ?_)
          refine qv_iast (pc := 57) g h9 dX10_becomes_57 (fun M41 => ?_)
          refine qv_iconst (v := 0) (pc := 58) g dX10_becomes_58 (by decide) ?_
          refine qv_istore_n (pc := 59) (lv1 := [(3, .int 0), (0, .ref (X.2.2.2 + t)), (1, .int p1), (2, .int v35)]) g dX10_becomes_59 rfl (by decide) rfl ?_
          refine qv_join (fun (k43 : qv_Mem → Option (Int32 × qv_Mem)) => ∀ (M42 : qv_Mem), qv_V G X 4 (qv_QM G X T qv_eIM (0, 0)) T (0, 0) 96 [(0, .ref (X.2.2.2 + t)), (1, .int p1), (2, .int v35)] [] M42 (k43 M42)) (fun M42 => ?_) (fun k43 qk43 => ?_)
          · refine qv_iinc (pc := 96) (v := (v35 + 1)) (lv1 := [(2, .int (v35 + 1)), (0, .ref (X.2.2.2 + t)), (1, .int p1)]) g dX10_becomes_96 rfl rfl (by decide) rfl ?_
            refine qv_goto (pc := 99) (tgt := 24) g dX10_becomes_99 (by decide) ?_
            refine qv_lv [1, 2, 0] rfl ?_
            exact qr37 _ _
          refine qv_lv [1, 2, 3, 0] rfl ?_
          exact qv_L2 (Vh := fun (v44 : Int32) (M45 : qv_Mem) o => qv_V G X 4 (qv_QM G X T qv_eIM (0, 0)) T (0, 0) 60 [(0, .ref (X.2.2.2 + t)), (1, .int p1), (2, .int v35), (3, .int v44)] [] M45 o) (fun _ _ => qv_none) (fun r46 qr46 v44 M45 => by
            unfold b_X10_becomes_60
            refine qv_iload_n (pc := 60) g dX10_becomes_60 rfl rfl ?_
            refine qv_bipush (v := 60) (pc := 61) g dX10_becomes_61 (by decide) ?_
            refine qv_icmp_ge (pc := 63) (tgt := 96) g dX10_becomes_63 (by decide) ?_ ?_
            · refine qv_lv [0, 1, 2] rfl ?_
              exact qk43 _
            · refine qv_aload_n (pc := 66) g dX10_becomes_66 rfl rfl ?_
              have h10 : qv_is _ T 20 480 (qv_rf T t 19) := ht.to 19 (by decide) (by decide) rfl
              refine qv_getr (pc := 67) g fw_RX10_61 ht (by decide) (by decide) rfl dX10_becomes_67 ?_
              refine qv_bipush (v := 60) (pc := 70) g dX10_becomes_70 (by decide) ?_
              refine qv_iload_n (pc := 72) g dX10_becomes_72 rfl rfl ?_
              refine qv_iconst (v := 1) (pc := 73) g dX10_becomes_73 (by decide) ?_
              refine qv_isub (pc := 74) g dX10_becomes_74 ?_
              refine qv_imul (pc := 75) g dX10_becomes_75 ?_
              refine qv_iload_n (pc := 76) g dX10_becomes_76 rfl rfl ?_
              refine qv_iadd (pc := 77) g dX10_becomes_77 ?_
              refine qv_aload_n (pc := 78) g dX10_becomes_78 rfl rfl ?_
              refine qv_getr (pc := 79) g fw_RX10_61 ht (by decide) (by decide) rfl dX10_becomes_79 ?_
              refine qv_bipush (v := 60) (pc := 82) g dX10_becomes_82 (by decide) ?_
              refine qv_iload_n (pc := 84) g dX10_becomes_84 rfl rfl ?_
              refine qv_imul (pc := 85) g dX10_becomes_85 ?_
              refine qv_iload_n (pc := 86) g dX10_becomes_86 rfl rfl ?_
              refine qv_iadd (pc := 87) g dX10_becomes_87 ?_
              refine qv_iald (pc := 88) g h10 dX10_becomes_88 (fun v47 => ?_)
              refine qv_iast (pc := 89) g h10 dX10_becomes_89 (fun M48 => ?_)
              refine qv_iinc (pc := 90) (v := (v44 + 1)) (lv1 := [(3, .int (v44 + 1)), (0, .ref (X.2.2.2 + t)), (1, .int p1), (2, .int v35)]) g dX10_becomes_90 rfl rfl (by decide) rfl ?_
              refine qv_goto (pc := 93) (tgt := 60) g dX10_becomes_93 (by decide) ?_
              refine qv_lv [1, 2, 3, 0] rfl ?_
              exact qr46 _ _) _ _ _) _ _ _
  · refine qv_aload_n (pc := 8) g dX10_becomes_8 rfl rfl ?_
    refine qv_gets (pc := 9) g fw_RX10_175 ht (by decide) (by decide) rfl dX10_becomes_9 (fun v49 => ?_)
    exact qv_iret (pc := 12) g hr rfl dX10_becomes_12

set_option maxHeartbeats 4000000 in
set_option maxRecDepth 100000 in
theorem c_X10_takes (l : Launch) (X : qv_X) (d : Nat) (T : List qv_Ent) (t : Nat) (p1 : Int32) (M : qv_Mem) {nt : Nat} (ht : qv_is (nt + 1) T 10 29 t) : qv_Ok l X yX10_takes cX10_takes 3 none (d) T M [.ref (X.2.2.2 + t), .int p1] qv_eV (f_X10_takes T t p1 M) := by
  refine qv_mk (lv := [(0, .ref (X.2.2.2 + t)), (1, .int p1)]) (by decide) (Nat.le_of_ble_eq_true rfl) rfl (fun G hG hRm g hr => ?_)
  have g : qv_ok G X cX10_takes RX10 3 := g
  unfold f_X10_takes
  refine qv_aload_n (pc := 0) g dX10_takes_0 rfl rfl ?_
  refine qv_aload_n (pc := 1) g dX10_takes_1 rfl rfl ?_
  have h1 : qv_is _ T 20 3 (qv_rf T t 6) := ht.to 6 (by decide) (by decide) rfl
  refine qv_getr (pc := 2) g fw_RX10_31 ht (by decide) (by decide) rfl dX10_takes_2 ?_
  refine qv_iload_n (pc := 5) g dX10_takes_5 rfl rfl ?_
  refine qv_iald (pc := 6) g h1 dX10_takes_6 (fun v1 => ?_)
  refine qv_puti (pc := 7) g pw_RX10_175 ht (by decide) (by decide) rfl dX10_takes_7 (fun M2 => ?_)
  refine qv_iconst (v := 0) (pc := 10) g dX10_takes_10 (by decide) ?_
  refine qv_istore_n (pc := 11) (lv1 := [(2, .int 0), (0, .ref (X.2.2.2 + t)), (1, .int p1)]) g dX10_takes_11 rfl (by decide) rfl ?_
  refine qv_join (fun (k4 : qv_Mem → Option qv_Mem) => ∀ (M3 : qv_Mem), qv_V G X 3 (qv_QM G X T qv_eV (0, 0)) T (0, 0) 43 [] [] M3 (k4 M3)) (fun M3 => ?_) (fun k4 qk4 => ?_)
  · exact qv_vret (pc := 43) g hr rfl dX10_takes_43
  refine qv_lv [1, 2, 0] rfl ?_
  exact qv_L2 (Vh := fun (v5 : Int32) (M6 : qv_Mem) o => qv_V G X 3 (qv_QM G X T qv_eV (0, 0)) T (0, 0) 12 [(0, .ref (X.2.2.2 + t)), (1, .int p1), (2, .int v5)] [] M6 o) (fun _ _ => qv_none) (fun r7 qr7 v5 M6 => by
    unfold b_X10_takes_12
    refine qv_iload_n (pc := 12) g dX10_takes_12 rfl rfl ?_
    refine qv_aload_n (pc := 13) g dX10_takes_13 rfl rfl ?_
    refine qv_gets (pc := 14) g fw_RX10_175 ht (by decide) (by decide) rfl dX10_takes_14 (fun v8 => ?_)
    refine qv_icmp_ge (pc := 17) (tgt := 43) g dX10_takes_17 (by decide) ?_ ?_
    · refine qv_lv [] rfl ?_
      exact qk4 _
    · refine qv_aload_n (pc := 20) g dX10_takes_20 rfl rfl ?_
      have h2 : qv_is _ T 20 600 (qv_rf T t 17) := ht.to 17 (by decide) (by decide) rfl
      refine qv_getr (pc := 21) g fw_RX10_58 ht (by decide) (by decide) rfl dX10_takes_21 ?_
      refine qv_iload_n (pc := 24) g dX10_takes_24 rfl rfl ?_
      refine qv_aload_n (pc := 25) g dX10_takes_25 rfl rfl ?_
      have h3 : qv_is _ T 20 180 (qv_rf T t 5) := ht.to 5 (by decide) (by decide) rfl
      refine qv_getr (pc := 26) g fw_RX10_28 ht (by decide) (by decide) rfl dX10_takes_26 ?_
      refine qv_bipush (v := 60) (pc := 29) g dX10_takes_29 (by decide) ?_
      refine qv_iload_n (pc := 31) g dX10_takes_31 rfl rfl ?_
      refine qv_imul (pc := 32) g dX10_takes_32 ?_
      refine qv_iload_n (pc := 33) g dX10_takes_33 rfl rfl ?_
      refine qv_iadd (pc := 34) g dX10_takes_34 ?_
      refine qv_iald (pc := 35) g h3 dX10_takes_35 (fun v9 => ?_)
      refine qv_iast (pc := 36) g h2 dX10_takes_36 (fun M10 => ?_)
      refine qv_iinc (pc := 37) (v := (v5 + 1)) (lv1 := [(2, .int (v5 + 1)), (0, .ref (X.2.2.2 + t)), (1, .int p1)]) g dX10_takes_37 rfl rfl (by decide) rfl ?_
      refine qv_goto (pc := 40) (tgt := 12) g dX10_takes_40 (by decide) ?_
      refine qv_lv [1, 2, 0] rfl ?_
      exact qr7 _ _) _ _ _

set_option maxHeartbeats 4000000 in
set_option maxRecDepth 100000 in
theorem c_X10_push (l : Launch) (X : qv_X) (d : Nat) (T : List qv_Ent) (t : Nat) (p1 : Int32) (p2 : Int32) (M : qv_Mem) {nt : Nat} (ht : qv_is (nt + 1) T 10 29 t) : qv_Ok l X yX10_push cX10_push 3 (some .int) (d + 2) T M [.ref (X.2.2.2 + t), .int p1, .int p2] qv_eIM (f_X10_push T t p1 p2 M) := by
  refine qv_mk (lv := [(0, .ref (X.2.2.2 + t)), (1, .int p1), (2, .int p2)]) (by decide) (Nat.le_of_ble_eq_true rfl) rfl (fun G hG hRm g hr => ?_)
  have g : qv_ok G X cX10_push RX10 3 := g
  unfold f_X10_push
  refine qv_iload_n (pc := 0) g dX10_push_0 rfl rfl ?_
  refine qv_aI rfl (qv_cs (pc := 1) g (c_X10_isWord (gl G) X d T _ M) (qv_R hRm (by omega) (by decide)) ⟨Nat.zero_le _, Nat.zero_le _⟩ mw_X10_isWord lk_RX10_187 st_X10_isWord pd_X10_isWord rfl (Nat.le_of_ble_eq_true rfl) dX10_push_1) (fun v1 => ?_)
  refine qv_if_eq (pc := 4) (tgt := 14) g dX10_push_4 (by decide) ?_ ?_
  · refine qv_iconst (v := (-1)) (pc := 14) g dX10_push_14 (by decide) ?_
    exact qv_iret (pc := 15) g hr rfl dX10_push_15
  · refine qv_iload_n (pc := 7) g dX10_push_7 rfl rfl ?_
    refine qv_aI rfl (qv_cs (pc := 8) g (c_X10_isGate (gl G) X d T _ M) (qv_R hRm (by omega) (by decide)) ⟨Nat.zero_le _, Nat.zero_le _⟩ mw_X10_isGate lk_RX10_129 st_X10_isGate pd_X10_isGate rfl (Nat.le_of_ble_eq_true rfl) dX10_push_8) (fun v2 => ?_)
    refine qv_if_ne (pc := 11) (tgt := 16) g dX10_push_11 (by decide) ?_ ?_
    · refine qv_aload_n (pc := 16) g dX10_push_16 rfl rfl ?_
      have h1 : qv_is _ T 20 3 (qv_rf T t 6) := ht.to 6 (by decide) (by decide) rfl
      refine qv_getr (pc := 17) g fw_RX10_31 ht (by decide) (by decide) rfl dX10_push_17 ?_
      refine qv_iload_n (pc := 20) g dX10_push_20 rfl rfl ?_
      refine qv_iald (pc := 21) g h1 dX10_push_21 (fun v3 => ?_)
      refine qv_bipush (v := 60) (pc := 22) g dX10_push_22 (by decide) ?_
      refine qv_icmp_ne (pc := 24) (tgt := 30) g dX10_push_24 (by decide) ?_ ?_
      · refine qv_aload_n (pc := 30) g dX10_push_30 rfl rfl ?_
        refine qv_iload_n (pc := 31) g dX10_push_31 rfl rfl ?_
        refine qv_aV (qv_cv (pc := 32) g (c_X10_takes (gl G) X (d + 1) T _ _ M ht) (qv_R hRm (by omega) (by decide)) ⟨Nat.zero_le _, Nat.zero_le _⟩ mw_X10_takes lk_RX10_190 im_X10_takes se_X10_takes (by decide) rfl ht pd_X10_takes rfl (Nat.le_of_ble_eq_true rfl) dX10_push_32) (fun M4 => ?_)
        refine qv_aload_n (pc := 35) g dX10_push_35 rfl rfl ?_
        have h2 : qv_is _ T 20 600 (qv_rf T t 17) := ht.to 17 (by decide) (by decide) rfl
        refine qv_getr (pc := 36) g fw_RX10_58 ht (by decide) (by decide) rfl dX10_push_36 ?_
        refine qv_aload_n (pc := 39) g dX10_push_39 rfl rfl ?_
        refine qv_gets (pc := 40) g fw_RX10_175 ht (by decide) (by decide) rfl dX10_push_40 (fun v5 => ?_)
        refine qv_iload_n (pc := 43) g dX10_push_43 rfl rfl ?_
        refine qv_iast (pc := 44) g h2 dX10_push_44 (fun M6 => ?_)
        refine qv_aload_n (pc := 45) g dX10_push_45 rfl rfl ?_
        refine qv_dup (pc := 46) g dX10_push_46 rfl ?_
        refine qv_gets (pc := 47) g fw_RX10_175 ht (by decide) (by decide) rfl dX10_push_47 (fun v7 => ?_)
        refine qv_iconst (v := 1) (pc := 50) g dX10_push_50 (by decide) ?_
        refine qv_iadd (pc := 51) g dX10_push_51 ?_
        refine qv_puti (pc := 52) g pw_RX10_175 ht (by decide) (by decide) rfl dX10_push_52 (fun M8 => ?_)
        refine qv_aload_n (pc := 55) g dX10_push_55 rfl rfl ?_
        refine qv_iload_n (pc := 56) g dX10_push_56 rfl rfl ?_
        refine qv_aIM (qv_cv (pc := 57) g (c_X10_becomes (gl G) X d T _ _ M8 ht) (qv_R hRm (by omega) (by decide)) ⟨Nat.zero_le _, Nat.zero_le _⟩ mw_X10_becomes lk_RX10_193 im_X10_becomes se_X10_becomes (by decide) rfl ht pd_X10_becomes rfl (Nat.le_of_ble_eq_true rfl) dX10_push_57) (fun v9 M10 => ?_)
        exact qv_iret (pc := 60) g hr rfl dX10_push_60
      · refine qv_bipush (v := (-3)) (pc := 27) g dX10_push_27 (by decide) ?_
        exact qv_iret (pc := 29) g hr rfl dX10_push_29
    · refine qv_iconst (v := (-1)) (pc := 14) g dX10_push_14 (by decide) ?_
      exact qv_iret (pc := 15) g hr rfl dX10_push_15

set_option maxHeartbeats 4000000 in
set_option maxRecDepth 100000 in
theorem c_X10_pull (l : Launch) (X : qv_X) (d : Nat) (T : List qv_Ent) (t : Nat) (p1 : Int32) (M : qv_Mem) {nt : Nat} (ht : qv_is (nt + 1) T 10 29 t) : qv_Ok l X yX10_pull cX10_pull 4 (some .int) (d + 2) T M [.ref (X.2.2.2 + t), .int p1] qv_eIM (f_X10_pull T t p1 M) := by
  refine qv_mk (lv := [(0, .ref (X.2.2.2 + t)), (1, .int p1)]) (by decide) (Nat.le_of_ble_eq_true rfl) rfl (fun G hG hRm g hr => ?_)
  have g : qv_ok G X cX10_pull RX10 4 := g
  unfold f_X10_pull
  refine qv_iload_n (pc := 0) g dX10_pull_0 rfl rfl ?_
  refine qv_aI rfl (qv_cs (pc := 1) g (c_X10_isWord (gl G) X d T _ M) (qv_R hRm (by omega) (by decide)) ⟨Nat.zero_le _, Nat.zero_le _⟩ mw_X10_isWord lk_RX10_187 st_X10_isWord pd_X10_isWord rfl (Nat.le_of_ble_eq_true rfl) dX10_pull_1) (fun v1 => ?_)
  refine qv_if_ne (pc := 4) (tgt := 9) g dX10_pull_4 (by decide) ?_ ?_
  · refine qv_aload_n (pc := 9) g dX10_pull_9 rfl rfl ?_
    have h1 : qv_is _ T 20 3 (qv_rf T t 6) := ht.to 6 (by decide) (by decide) rfl
    refine qv_getr (pc := 10) g fw_RX10_31 ht (by decide) (by decide) rfl dX10_pull_10 ?_
    refine qv_iload_n (pc := 13) g dX10_pull_13 rfl rfl ?_
    refine qv_iald (pc := 14) g h1 dX10_pull_14 (fun v2 => ?_)
    refine qv_if_ne (pc := 15) (tgt := 21) g dX10_pull_15 (by decide) ?_ ?_
    · refine qv_aload_n (pc := 21) g dX10_pull_21 rfl rfl ?_
      refine qv_iload_n (pc := 22) g dX10_pull_22 rfl rfl ?_
      refine qv_aV (qv_cv (pc := 23) g (c_X10_takes (gl G) X (d + 1) T _ _ M ht) (qv_R hRm (by omega) (by decide)) ⟨Nat.zero_le _, Nat.zero_le _⟩ mw_X10_takes lk_RX10_190 im_X10_takes se_X10_takes (by decide) rfl ht pd_X10_takes rfl (Nat.le_of_ble_eq_true rfl) dX10_pull_23) (fun M3 => ?_)
      refine qv_aload_n (pc := 26) g dX10_pull_26 rfl rfl ?_
      refine qv_dup (pc := 27) g dX10_pull_27 rfl ?_
      refine qv_gets (pc := 28) g fw_RX10_175 ht (by decide) (by decide) rfl dX10_pull_28 (fun v4 => ?_)
      refine qv_iconst (v := 1) (pc := 31) g dX10_pull_31 (by decide) ?_
      refine qv_isub (pc := 32) g dX10_pull_32 ?_
      refine qv_puti (pc := 33) g pw_RX10_175 ht (by decide) (by decide) rfl dX10_pull_33 (fun M5 => ?_)
      refine qv_aload_n (pc := 36) g dX10_pull_36 rfl rfl ?_
      have h2 : qv_is _ T 20 600 (qv_rf T t 17) := ht.to 17 (by decide) (by decide) rfl
      refine qv_getr (pc := 37) g fw_RX10_58 ht (by decide) (by decide) rfl dX10_pull_37 ?_
      refine qv_aload_n (pc := 40) g dX10_pull_40 rfl rfl ?_
      refine qv_gets (pc := 41) g fw_RX10_175 ht (by decide) (by decide) rfl dX10_pull_41 (fun v6 => ?_)
      refine qv_iald (pc := 44) g h2 dX10_pull_44 (fun v7 => ?_)
      refine qv_istore_n (pc := 45) (lv1 := [(2, .int v7), (0, .ref (X.2.2.2 + t)), (1, .int p1)]) g dX10_pull_45 rfl (by decide) rfl ?_
      refine qv_aload_n (pc := 46) g dX10_pull_46 rfl rfl ?_
      refine qv_iload_n (pc := 47) g dX10_pull_47 rfl rfl ?_
      refine qv_aIM (qv_cv (pc := 48) g (c_X10_becomes (gl G) X d T _ _ M5 ht) (qv_R hRm (by omega) (by decide)) ⟨Nat.zero_le _, Nat.zero_le _⟩ mw_X10_becomes lk_RX10_193 im_X10_becomes se_X10_becomes (by decide) rfl ht pd_X10_becomes rfl (Nat.le_of_ble_eq_true rfl) dX10_pull_48) (fun v8 M9 => ?_)
      refine qv_istore_n (pc := 51) (lv1 := [(3, .int v8), (2, .int v7), (0, .ref (X.2.2.2 + t)), (1, .int p1)]) g dX10_pull_51 rfl (by decide) rfl ?_
      refine qv_iload_n (pc := 52) g dX10_pull_52 rfl rfl ?_
      exact qv_iret (pc := 53) g hr rfl dX10_pull_53
    · refine qv_bipush (v := (-2)) (pc := 18) g dX10_pull_18 (by decide) ?_
      exact qv_iret (pc := 20) g hr rfl dX10_pull_20
  · refine qv_iconst (v := (-1)) (pc := 7) g dX10_pull_7 (by decide) ?_
    exact qv_iret (pc := 8) g hr rfl dX10_pull_8

set_option maxHeartbeats 4000000 in
set_option maxRecDepth 100000 in
theorem c_X10_word (l : Launch) (X : qv_X) (d : Nat) (T : List qv_Ent) (t : Nat) (p1 : Int32) (p2 : Int32) (M : qv_Mem) {nt : Nat} (ht : qv_is (nt + 1) T 10 29 t) : qv_Ok l X yX10_word cX10_word 5 (some .int) (d + 2) T M [.ref (X.2.2.2 + t), .int p1, .int p2] (qv_eI M) (f_X10_word T t p1 p2 M) := by
  refine qv_mk (lv := [(0, .ref (X.2.2.2 + t)), (1, .int p1), (2, .int p2)]) (by decide) (Nat.le_of_ble_eq_true rfl) rfl (fun G hG hRm g hr => ?_)
  have g : qv_ok G X cX10_word RX10 5 := g
  unfold f_X10_word
  refine qv_iload_n (pc := 0) g dX10_word_0 rfl rfl ?_
  refine qv_aI rfl (qv_cs (pc := 1) g (c_X10_isWord (gl G) X d T _ M) (qv_R hRm (by omega) (by decide)) ⟨Nat.zero_le _, Nat.zero_le _⟩ mw_X10_isWord lk_RX10_187 st_X10_isWord pd_X10_isWord rfl (Nat.le_of_ble_eq_true rfl) dX10_word_1) (fun v1 => ?_)
  refine qv_if_eq (pc := 4) (tgt := 13) g dX10_word_4 (by decide) ?_ ?_
  · refine qv_iconst (v := (-1)) (pc := 13) g dX10_word_13 (by decide) ?_
    exact qv_iret (pc := 14) g hr rfl dX10_word_14
  · refine qv_iload_n (pc := 7) g dX10_word_7 rfl rfl ?_
    refine qv_bipush (v := (-2)) (pc := 8) g dX10_word_8 (by decide) ?_
    refine qv_icmp_ge (pc := 10) (tgt := 15) g dX10_word_10 (by decide) ?_ ?_
    · refine qv_iconst (v := 0) (pc := 15) g dX10_word_15 (by decide) ?_
      refine qv_istore_n (pc := 16) (lv1 := [(3, .int 0), (0, .ref (X.2.2.2 + t)), (1, .int p1), (2, .int p2)]) g dX10_word_16 rfl (by decide) rfl ?_
      refine qv_iconst (v := 0) (pc := 17) g dX10_word_17 (by decide) ?_
      refine qv_istore (pc := 18) (lv1 := [(4, .int 0), (3, .int 0), (0, .ref (X.2.2.2 + t)), (1, .int p1), (2, .int p2)]) g dX10_word_18 (by decide) rfl ?_
      refine qv_join (fun (k3 : Int32 → Option Int32) => ∀ (v2 : Int32), qv_V G X 5 (qv_QM G X T (qv_eI M) (0, 0)) T (0, 0) 57 [(0, .ref (X.2.2.2 + t)), (1, .int p1), (2, .int p2), (3, .int v2)] [] M (k3 v2)) (fun v2 => ?_) (fun k3 qk3 => ?_)
      · refine qv_iload_n (pc := 57) g dX10_word_57 rfl rfl ?_
        refine qv_bipush (v := (-2)) (pc := 58) g dX10_word_58 (by decide) ?_
        refine qv_icmp_ne (pc := 60) (tgt := 67) g dX10_word_60 (by decide) ?_ ?_
        · refine qv_iload_n (pc := 67) g dX10_word_67 rfl rfl ?_
          refine qv_iconst (v := (-1)) (pc := 68) g dX10_word_68 (by decide) ?_
          refine qv_icmp_ne (pc := 69) (tgt := 81) g dX10_word_69 (by decide) ?_ ?_
          · refine qv_iload_n (pc := 81) g dX10_word_81 rfl rfl ?_
            refine qv_aload_n (pc := 82) g dX10_word_82 rfl rfl ?_
            have h1 : qv_is _ T 20 3 (qv_rf T t 6) := ht.to 6 (by decide) (by decide) rfl
            refine qv_getr (pc := 83) g fw_RX10_31 ht (by decide) (by decide) rfl dX10_word_83 ?_
            refine qv_iload_n (pc := 86) g dX10_word_86 rfl rfl ?_
            refine qv_iald (pc := 87) g h1 dX10_word_87 (fun v4 => ?_)
            refine qv_icmp_ge (pc := 88) (tgt := 105) g dX10_word_88 (by decide) ?_ ?_
            · refine qv_bipush (v := (-2)) (pc := 105) g dX10_word_105 (by decide) ?_
              exact qv_iret (pc := 107) g hr rfl dX10_word_107
            · refine qv_aload_n (pc := 91) g dX10_word_91 rfl rfl ?_
              have h2 : qv_is _ T 20 180 (qv_rf T t 5) := ht.to 5 (by decide) (by decide) rfl
              refine qv_getr (pc := 92) g fw_RX10_28 ht (by decide) (by decide) rfl dX10_word_92 ?_
              refine qv_bipush (v := 60) (pc := 95) g dX10_word_95 (by decide) ?_
              refine qv_iload_n (pc := 97) g dX10_word_97 rfl rfl ?_
              refine qv_imul (pc := 98) g dX10_word_98 ?_
              refine qv_iload_n (pc := 99) g dX10_word_99 rfl rfl ?_
              refine qv_iadd (pc := 100) g dX10_word_100 ?_
              refine qv_iald (pc := 101) g h2 dX10_word_101 (fun v5 => ?_)
              refine qv_goto (pc := 102) (tgt := 107) g dX10_word_102 (by decide) ?_
              exact qv_iret (pc := 107) g hr rfl dX10_word_107
          · refine qv_aload_n (pc := 72) g dX10_word_72 rfl rfl ?_
            have h3 : qv_is _ T 20 3 (qv_rf T t 6) := ht.to 6 (by decide) (by decide) rfl
            refine qv_getr (pc := 73) g fw_RX10_31 ht (by decide) (by decide) rfl dX10_word_73 ?_
            refine qv_iload_n (pc := 76) g dX10_word_76 rfl rfl ?_
            refine qv_iald (pc := 77) g h3 dX10_word_77 (fun v6 => ?_)
            refine qv_goto (pc := 78) (tgt := 107) g dX10_word_78 (by decide) ?_
            exact qv_iret (pc := 107) g hr rfl dX10_word_107
        · refine qv_iload_n (pc := 63) g dX10_word_63 rfl rfl ?_
          refine qv_goto (pc := 64) (tgt := 107) g dX10_word_64 (by decide) ?_
          exact qv_iret (pc := 107) g hr rfl dX10_word_107
      refine qv_lv [2, 3, 4, 1, 0] rfl ?_
      exact qv_L2 (Vh := fun (v7 : Int32) (v8 : Int32) o => qv_V G X 5 (qv_QM G X T (qv_eI M) (0, 0)) T (0, 0) 20 [(0, .ref (X.2.2.2 + t)), (1, .int p1), (2, .int p2), (3, .int v7), (4, .int v8)] [] M o) (fun _ _ => qv_none) (fun r9 qr9 v7 v8 => by
        unfold b_X10_word_20
        refine qv_iload (pc := 20) g dX10_word_20 rfl ?_
        refine qv_aload_n (pc := 22) g dX10_word_22 rfl rfl ?_
        have h4 : qv_is _ T 20 3 (qv_rf T t 6) := ht.to 6 (by decide) (by decide) rfl
        refine qv_getr (pc := 23) g fw_RX10_31 ht (by decide) (by decide) rfl dX10_word_23 ?_
        refine qv_iload_n (pc := 26) g dX10_word_26 rfl rfl ?_
        refine qv_iald (pc := 27) g h4 dX10_word_27 (fun v10 => ?_)
        refine qv_icmp_ge (pc := 28) (tgt := 57) g dX10_word_28 (by decide) ?_ ?_
        · refine qv_lv [0, 1, 2, 3] rfl ?_
          exact qk3 _
        · refine qv_iload_n (pc := 31) g dX10_word_31 rfl rfl ?_
          refine qv_aload_n (pc := 32) g dX10_word_32 rfl rfl ?_
          have h5 : qv_is _ T 20 7 (qv_rf T t 3) := ht.to 3 (by decide) (by decide) rfl
          refine qv_getr (pc := 33) g fw_RX10_21 ht (by decide) (by decide) rfl dX10_word_33 ?_
          refine qv_aload_n (pc := 36) g dX10_word_36 rfl rfl ?_
          have h6 : qv_is _ T 20 180 (qv_rf T t 5) := ht.to 5 (by decide) (by decide) rfl
          refine qv_getr (pc := 37) g fw_RX10_28 ht (by decide) (by decide) rfl dX10_word_37 ?_
          refine qv_bipush (v := 60) (pc := 40) g dX10_word_40 (by decide) ?_
          refine qv_iload_n (pc := 42) g dX10_word_42 rfl rfl ?_
          refine qv_imul (pc := 43) g dX10_word_43 ?_
          refine qv_iload (pc := 44) g dX10_word_44 rfl ?_
          refine qv_iadd (pc := 46) g dX10_word_46 ?_
          refine qv_iald (pc := 47) g h6 dX10_word_47 (fun v11 => ?_)
          refine qv_iald (pc := 48) g h5 dX10_word_48 (fun v12 => ?_)
          refine qv_iadd (pc := 49) g dX10_word_49 ?_
          refine qv_istore_n (pc := 50) (lv1 := [(3, .int (v7 + v12)), (0, .ref (X.2.2.2 + t)), (1, .int p1), (2, .int p2), (4, .int v8)]) g dX10_word_50 rfl (by decide) rfl ?_
          refine qv_iinc (pc := 51) (v := (v8 + 1)) (lv1 := [(4, .int (v8 + 1)), (3, .int (v7 + v12)), (0, .ref (X.2.2.2 + t)), (1, .int p1), (2, .int p2)]) g dX10_word_51 rfl rfl (by decide) rfl ?_
          refine qv_goto (pc := 54) (tgt := 20) g dX10_word_54 (by decide) ?_
          refine qv_lv [2, 3, 4, 1, 0] rfl ?_
          exact qr9 _ _) _ _ _
    · refine qv_iconst (v := (-1)) (pc := 13) g dX10_word_13 (by decide) ?_
      exact qv_iret (pc := 14) g hr rfl dX10_word_14

set_option maxHeartbeats 4000000 in
set_option maxRecDepth 100000 in
theorem c_X10_valueOf (l : Launch) (X : qv_X) (d : Nat) (T : List qv_Ent) (t : Nat) (p1 : Int32) (p2 : Int32) (p3 : Int32) (p4 : Int32) (p5 : Int32) (M : qv_Mem) {nt : Nat} (ht : qv_is (nt + 1) T 10 29 t) : qv_Ok l X yX10_valueOf cX10_valueOf 7 none (d + 4) T M [.ref (X.2.2.2 + t), .int p1, .int p2, .int p3, .int p4, .int p5] qv_eV (f_X10_valueOf T t p1 p2 p3 p4 p5 M) := by
  refine qv_mk (lv := [(0, .ref (X.2.2.2 + t)), (1, .int p1), (2, .int p2), (3, .int p3), (4, .int p4), (5, .int p5)]) (by decide) (Nat.le_of_ble_eq_true rfl) rfl (fun G hG hRm g hr => ?_)
  have g : qv_ok G X cX10_valueOf RX10 7 := g
  unfold f_X10_valueOf
  refine qv_aload_n (pc := 0) g dX10_valueOf_0 rfl rfl ?_
  refine qv_bipush (v := 14) (pc := 1) g dX10_valueOf_1 (by decide) ?_
  refine qv_iload_n (pc := 3) g dX10_valueOf_3 rfl rfl ?_
  refine qv_aV (qv_cv (pc := 4) g (c_X10_copies (gl G) X (d + 3) T _ _ _ M ht) (qv_R hRm (by omega) (by decide)) ⟨Nat.zero_le _, Nat.zero_le _⟩ mw_X10_copies lk_RX10_83 im_X10_copies se_X10_copies (by decide) rfl ht pd_X10_copies rfl (Nat.le_of_ble_eq_true rfl) dX10_valueOf_4) (fun M1 => ?_)
  refine qv_iconst (v := 0) (pc := 7) g dX10_valueOf_7 (by decide) ?_
  refine qv_istore (pc := 8) (lv1 := [(6, .int 0), (0, .ref (X.2.2.2 + t)), (1, .int p1), (2, .int p2), (3, .int p3), (4, .int p4), (5, .int p5)]) g dX10_valueOf_8 (by decide) rfl ?_
  refine qv_join (fun (k3 : qv_Mem → Option qv_Mem) => ∀ (M2 : qv_Mem), qv_V G X 7 (qv_QM G X T qv_eV (0, 0)) T (0, 0) 65 [] [] M2 (k3 M2)) (fun M2 => ?_) (fun k3 qk3 => ?_)
  · exact qv_vret (pc := 65) g hr rfl dX10_valueOf_65
  refine qv_lv [1, 2, 3, 4, 5, 6, 0] rfl ?_
  exact qv_L2 (Vh := fun (v4 : Int32) (M5 : qv_Mem) o => qv_V G X 7 (qv_QM G X T qv_eV (0, 0)) T (0, 0) 10 [(0, .ref (X.2.2.2 + t)), (1, .int p1), (2, .int p2), (3, .int p3), (4, .int p4), (5, .int p5), (6, .int v4)] [] M5 o) (fun _ _ => qv_none) (fun r6 qr6 v4 M5 => by
    unfold b_X10_valueOf_10
    refine qv_iload (pc := 10) g dX10_valueOf_10 rfl ?_
    refine qv_iload_n (pc := 12) g dX10_valueOf_12 rfl rfl ?_
    refine qv_icmp_ge (pc := 13) (tgt := 65) g dX10_valueOf_13 (by decide) ?_ ?_
    · refine qv_lv [] rfl ?_
      exact qk3 _
    · refine qv_iload (pc := 16) g dX10_valueOf_16 rfl ?_
      refine qv_aload_n (pc := 18) g dX10_valueOf_18 rfl rfl ?_
      have h1 : qv_is _ T 20 3 (qv_rf T t 6) := ht.to 6 (by decide) (by decide) rfl
      refine qv_getr (pc := 19) g fw_RX10_31 ht (by decide) (by decide) rfl dX10_valueOf_19 ?_
      refine qv_iload_n (pc := 22) g dX10_valueOf_22 rfl rfl ?_
      refine qv_iald (pc := 23) g h1 dX10_valueOf_23 (fun v7 => ?_)
      refine qv_icmp_ge (pc := 24) (tgt := 65) g dX10_valueOf_24 (by decide) ?_ ?_
      · refine qv_lv [] rfl ?_
        exact qk3 _
      · refine qv_aload_n (pc := 27) g dX10_valueOf_27 rfl rfl ?_
        refine qv_iload_n (pc := 28) g dX10_valueOf_28 rfl rfl ?_
        refine qv_iload_n (pc := 29) g dX10_valueOf_29 rfl rfl ?_
        refine qv_iconst (v := 4) (pc := 30) g dX10_valueOf_30 (by decide) ?_
        refine qv_iload (pc := 31) g dX10_valueOf_31 rfl ?_
        refine qv_iload (pc := 33) g dX10_valueOf_33 rfl ?_
        refine qv_join (fun (k9 : Int32 → Option qv_Mem) => ∀ (v8 : Int32), qv_V G X 7 (qv_QM G X T qv_eV (0, 0)) T (0, 0) 55 [(0, .ref (X.2.2.2 + t)), (1, .int p1), (2, .int p2), (3, .int p3), (4, .int p4), (5, .int p5), (6, .int v4)] [.int v8, .int 4, .int p1, .int p1, .ref (X.2.2.2 + t)] M5 (k9 v8)) (fun v8 => ?_) (fun k9 qk9 => ?_)
        · refine qv_iadd (pc := 55) g dX10_valueOf_55 ?_
          refine qv_aV (qv_cv (pc := 56) g (c_X10_product (gl G) X d T _ _ _ _ M5 ht) (qv_R hRm (by omega) (by decide)) ⟨Nat.zero_le _, Nat.zero_le _⟩ mw_X10_product lk_RX10_132 im_X10_product se_X10_product (by decide) rfl ht pd_X10_product rfl (Nat.le_of_ble_eq_true rfl) dX10_valueOf_56) (fun M10 => ?_)
          refine qv_iinc (pc := 59) (v := (v4 + 1)) (lv1 := [(6, .int (v4 + 1)), (0, .ref (X.2.2.2 + t)), (1, .int p1), (2, .int p2), (3, .int p3), (4, .int p4), (5, .int p5)]) g dX10_valueOf_59 rfl rfl (by decide) rfl ?_
          refine qv_goto (pc := 62) (tgt := 10) g dX10_valueOf_62 (by decide) ?_
          refine qv_lv [1, 2, 3, 4, 5, 6, 0] rfl ?_
          exact qr6 _ _
        refine qv_icmp_ne (pc := 35) (tgt := 43) g dX10_valueOf_35 (by decide) ?_ ?_
        · refine qv_aload_n (pc := 43) g dX10_valueOf_43 rfl rfl ?_
          have h2 : qv_is _ T 20 180 (qv_rf T t 5) := ht.to 5 (by decide) (by decide) rfl
          refine qv_getr (pc := 44) g fw_RX10_28 ht (by decide) (by decide) rfl dX10_valueOf_44 ?_
          refine qv_bipush (v := 60) (pc := 47) g dX10_valueOf_47 (by decide) ?_
          refine qv_iload_n (pc := 49) g dX10_valueOf_49 rfl rfl ?_
          refine qv_imul (pc := 50) g dX10_valueOf_50 ?_
          refine qv_iload (pc := 51) g dX10_valueOf_51 rfl ?_
          refine qv_iadd (pc := 53) g dX10_valueOf_53 ?_
          refine qv_iald (pc := 54) g h2 dX10_valueOf_54 (fun v11 => ?_)
          exact qk9 _
        · refine qv_iload (pc := 38) g dX10_valueOf_38 rfl ?_
          refine qv_goto (pc := 40) (tgt := 55) g dX10_valueOf_40 (by decide) ?_
          exact qk9 _) _ _ _

set_option maxHeartbeats 4000000 in
set_option maxRecDepth 100000 in
theorem c_X10_value (l : Launch) (X : qv_X) (d : Nat) (T : List qv_Ent) (t : Nat) (p1 : Int32) (p2 : Int32) (M : qv_Mem) {nt : Nat} (ht : qv_is (nt + 1) T 10 29 t) : qv_Ok l X yX10_value cX10_value 3 (some .int) (d + 5) T M [.ref (X.2.2.2 + t), .int p1, .int p2] qv_eIM (f_X10_value T t p1 p2 M) := by
  refine qv_mk (lv := [(0, .ref (X.2.2.2 + t)), (1, .int p1), (2, .int p2)]) (by decide) (Nat.le_of_ble_eq_true rfl) rfl (fun G hG hRm g hr => ?_)
  have g : qv_ok G X cX10_value RX10 3 := g
  unfold f_X10_value
  refine qv_iload_n (pc := 0) g dX10_value_0 rfl rfl ?_
  refine qv_aI rfl (qv_cs (pc := 1) g (c_X10_isRegister (gl G) X (d + 3) T _ M) (qv_R hRm (by omega) (by decide)) ⟨Nat.zero_le _, Nat.zero_le _⟩ mw_X10_isRegister lk_RX10_126 st_X10_isRegister pd_X10_isRegister rfl (Nat.le_of_ble_eq_true rfl) dX10_value_1) (fun v1 => ?_)
  refine qv_if_eq (pc := 4) (tgt := 14) g dX10_value_4 (by decide) ?_ ?_
  · refine qv_iconst (v := (-1)) (pc := 14) g dX10_value_14 (by decide) ?_
    exact qv_iret (pc := 15) g hr rfl dX10_value_15
  · refine qv_iload_n (pc := 7) g dX10_value_7 rfl rfl ?_
    refine qv_aI rfl (qv_cs (pc := 8) g (c_X10_isWord (gl G) X (d + 3) T _ M) (qv_R hRm (by omega) (by decide)) ⟨Nat.zero_le _, Nat.zero_le _⟩ mw_X10_isWord lk_RX10_187 st_X10_isWord pd_X10_isWord rfl (Nat.le_of_ble_eq_true rfl) dX10_value_8) (fun v2 => ?_)
    refine qv_if_ne (pc := 11) (tgt := 16) g dX10_value_11 (by decide) ?_ ?_
    · refine qv_aload_n (pc := 16) g dX10_value_16 rfl rfl ?_
      refine qv_bipush (v := 15) (pc := 17) g dX10_value_17 (by decide) ?_
      refine qv_iload_n (pc := 19) g dX10_value_19 rfl rfl ?_
      refine qv_bipush (v := 60) (pc := 20) g dX10_value_20 (by decide) ?_
      refine qv_bipush (v := (-2)) (pc := 22) g dX10_value_22 (by decide) ?_
      refine qv_iconst (v := 0) (pc := 24) g dX10_value_24 (by decide) ?_
      refine qv_aV (qv_cv (pc := 25) g (c_X10_valueOf (gl G) X d T _ _ _ _ _ _ M ht) (qv_R hRm (by omega) (by decide)) ⟨Nat.zero_le _, Nat.zero_le _⟩ mw_X10_valueOf lk_RX10_196 im_X10_valueOf se_X10_valueOf (by decide) rfl ht pd_X10_valueOf rfl (Nat.le_of_ble_eq_true rfl) dX10_value_25) (fun M3 => ?_)
      refine qv_aload_n (pc := 28) g dX10_value_28 rfl rfl ?_
      refine qv_iload_n (pc := 29) g dX10_value_29 rfl rfl ?_
      refine qv_aIM (qv_cv (pc := 30) g (c_X10_comes (gl G) X (d + 3) T _ _ M3 ht) (qv_R hRm (by omega) (by decide)) ⟨Nat.zero_le _, Nat.zero_le _⟩ mw_X10_comes lk_RX10_135 im_X10_comes se_X10_comes (by decide) rfl ht pd_X10_comes rfl (Nat.le_of_ble_eq_true rfl) dX10_value_30) (fun v4 M5 => ?_)
      exact qv_iret (pc := 33) g hr rfl dX10_value_33
    · refine qv_iconst (v := (-1)) (pc := 14) g dX10_value_14 (by decide) ?_
      exact qv_iret (pc := 15) g hr rfl dX10_value_15

set_option maxHeartbeats 4000000 in
set_option maxRecDepth 100000 in
theorem c_X10_isPair (l : Launch) (X : qv_X) (d : Nat) (T : List qv_Ent) (t : Nat) (p1 : Int32) (p2 : Int32) (p3 : Int32) (M : qv_Mem) {nt : Nat} (ht : qv_is (nt + 1) T 10 29 t) : qv_Ok l X yX10_isPair cX10_isPair 4 (some .boolean) (d) T M [.ref (X.2.2.2 + t), .int p1, .int p2, .int p3] (qv_eI M) (f_X10_isPair T t p1 p2 p3 M) := by
  refine qv_mk (lv := [(0, .ref (X.2.2.2 + t)), (1, .int p1), (2, .int p2), (3, .int p3)]) (by decide) (Nat.le_of_ble_eq_true rfl) rfl (fun G hG hRm g hr => ?_)
  have g : qv_ok G X cX10_isPair RX10 4 := g
  unfold f_X10_isPair
  refine qv_iload_n (pc := 0) g dX10_isPair_0 rfl rfl ?_
  refine qv_iconst (v := 1) (pc := 1) g dX10_isPair_1 (by decide) ?_
  refine qv_iadd (pc := 2) g dX10_isPair_2 ?_
  refine qv_aload_n (pc := 3) g dX10_isPair_3 rfl rfl ?_
  refine qv_gets (pc := 4) g fw_RX10_175 ht (by decide) (by decide) rfl dX10_isPair_4 (fun v1 => ?_)
  refine qv_icmp_ge (pc := 7) (tgt := 36) g dX10_isPair_7 (by decide) ?_ ?_
  · refine qv_iconst (v := 0) (pc := 36) g dX10_isPair_36 (by decide) ?_
    exact qv_zret (pc := 37) g hr rfl rfl dX10_isPair_37
  · refine qv_aload_n (pc := 10) g dX10_isPair_10 rfl rfl ?_
    have h1 : qv_is _ T 20 600 (qv_rf T t 17) := ht.to 17 (by decide) (by decide) rfl
    refine qv_getr (pc := 11) g fw_RX10_58 ht (by decide) (by decide) rfl dX10_isPair_11 ?_
    refine qv_iload_n (pc := 14) g dX10_isPair_14 rfl rfl ?_
    refine qv_iald (pc := 15) g h1 dX10_isPair_15 (fun v2 => ?_)
    refine qv_iload_n (pc := 16) g dX10_isPair_16 rfl rfl ?_
    refine qv_icmp_ne (pc := 17) (tgt := 36) g dX10_isPair_17 (by decide) ?_ ?_
    · refine qv_iconst (v := 0) (pc := 36) g dX10_isPair_36 (by decide) ?_
      exact qv_zret (pc := 37) g hr rfl rfl dX10_isPair_37
    · refine qv_aload_n (pc := 20) g dX10_isPair_20 rfl rfl ?_
      refine qv_getr (pc := 21) g fw_RX10_58 ht (by decide) (by decide) rfl dX10_isPair_21 ?_
      refine qv_iload_n (pc := 24) g dX10_isPair_24 rfl rfl ?_
      refine qv_iconst (v := 1) (pc := 25) g dX10_isPair_25 (by decide) ?_
      refine qv_iadd (pc := 26) g dX10_isPair_26 ?_
      refine qv_iald (pc := 27) g h1 dX10_isPair_27 (fun v3 => ?_)
      refine qv_iload_n (pc := 28) g dX10_isPair_28 rfl rfl ?_
      refine qv_icmp_ne (pc := 29) (tgt := 36) g dX10_isPair_29 (by decide) ?_ ?_
      · refine qv_iconst (v := 0) (pc := 36) g dX10_isPair_36 (by decide) ?_
        exact qv_zret (pc := 37) g hr rfl rfl dX10_isPair_37
      · refine qv_iconst (v := 1) (pc := 32) g dX10_isPair_32 (by decide) ?_
        refine qv_goto (pc := 33) (tgt := 37) g dX10_isPair_33 (by decide) ?_
        exact qv_zret (pc := 37) g hr rfl rfl dX10_isPair_37

set_option maxHeartbeats 4000000 in
set_option maxRecDepth 100000 in
theorem c_X10_cuts (l : Launch) (X : qv_X) (d : Nat) (T : List qv_Ent) (t : Nat) (p1 : Int32) (p2 : Int32) (p3 : Int32) (p4 : Int32) (M : qv_Mem) {nt : Nat} (ht : qv_is (nt + 1) T 10 29 t) : qv_Ok l X yX10_cuts cX10_cuts 7 none (d) T M [.ref (X.2.2.2 + t), .int p1, .int p2, .int p3, .int p4] qv_eV (f_X10_cuts T t p1 p2 p3 p4 M) := by
  refine qv_mk (lv := [(0, .ref (X.2.2.2 + t)), (1, .int p1), (2, .int p2), (3, .int p3), (4, .int p4)]) (by decide) (Nat.le_of_ble_eq_true rfl) rfl (fun G hG hRm g hr => ?_)
  have g : qv_ok G X cX10_cuts RX10 7 := g
  unfold f_X10_cuts
  refine qv_iload_n (pc := 0) g dX10_cuts_0 rfl rfl ?_
  refine qv_join (fun (k2 : Int32 → Option qv_Mem) => ∀ (v1 : Int32), qv_V G X 7 (qv_QM G X T qv_eV (0, 0)) T (0, 0) 18 [(0, .ref (X.2.2.2 + t)), (1, .int p1), (2, .int p2), (3, .int p3), (4, .int p4)] [.int v1] M (k2 v1)) (fun v1 => ?_) (fun k2 qk2 => ?_)
  · refine qv_istore (pc := 18) (lv1 := [(5, .int v1), (0, .ref (X.2.2.2 + t)), (1, .int p1), (2, .int p2), (3, .int p3), (4, .int p4)]) g dX10_cuts_18 (by decide) rfl ?_
    refine qv_iload_n (pc := 20) g dX10_cuts_20 rfl rfl ?_
    refine qv_iload_n (pc := 21) g dX10_cuts_21 rfl rfl ?_
    refine qv_iadd (pc := 22) g dX10_cuts_22 ?_
    refine qv_istore (pc := 23) (lv1 := [(6, .int (p1 + p2)), (5, .int v1), (0, .ref (X.2.2.2 + t)), (1, .int p1), (2, .int p2), (3, .int p3), (4, .int p4)]) g dX10_cuts_23 (by decide) rfl ?_
    refine qv_join (fun (k4 : qv_Mem → Option qv_Mem) => ∀ (M3 : qv_Mem), qv_V G X 7 (qv_QM G X T qv_eV (0, 0)) T (0, 0) 59 [(0, .ref (X.2.2.2 + t)), (1, .int p1), (2, .int p2), (3, .int p3), (4, .int p4), (5, .int v1)] [] M3 (k4 M3)) (fun M3 => ?_) (fun k4 qk4 => ?_)
    · refine qv_aload_n (pc := 59) g dX10_cuts_59 rfl rfl ?_
      refine qv_dup (pc := 60) g dX10_cuts_60 rfl ?_
      refine qv_gets (pc := 61) g fw_RX10_175 ht (by decide) (by decide) rfl dX10_cuts_61 (fun v5 => ?_)
      refine qv_iload (pc := 64) g dX10_cuts_64 rfl ?_
      refine qv_iload_n (pc := 66) g dX10_cuts_66 rfl rfl ?_
      refine qv_isub (pc := 67) g dX10_cuts_67 ?_
      refine qv_iadd (pc := 68) g dX10_cuts_68 ?_
      refine qv_puti (pc := 69) g pw_RX10_175 ht (by decide) (by decide) rfl dX10_cuts_69 (fun M6 => ?_)
      refine qv_iload (pc := 72) g dX10_cuts_72 rfl ?_
      refine qv_join (fun (k8 : qv_Mem → Option qv_Mem) => ∀ (M7 : qv_Mem), qv_V G X 7 (qv_QM G X T qv_eV (0, 0)) T (0, 0) 84 [(0, .ref (X.2.2.2 + t)), (1, .int p1), (4, .int p4), (5, .int v1)] [] M7 (k8 M7)) (fun M7 => ?_) (fun k8 qk8 => ?_)
      · refine qv_iload (pc := 84) g dX10_cuts_84 rfl ?_
        refine qv_iconst (v := 1) (pc := 86) g dX10_cuts_86 (by decide) ?_
        refine qv_icmp_le (pc := 87) (tgt := 100) g dX10_cuts_87 (by decide) ?_ ?_
        · exact qv_vret (pc := 100) g hr rfl dX10_cuts_100
        · refine qv_aload_n (pc := 90) g dX10_cuts_90 rfl rfl ?_
          have h1 : qv_is _ T 20 600 (qv_rf T t 17) := ht.to 17 (by decide) (by decide) rfl
          refine qv_getr (pc := 91) g fw_RX10_58 ht (by decide) (by decide) rfl dX10_cuts_91 ?_
          refine qv_iload_n (pc := 94) g dX10_cuts_94 rfl rfl ?_
          refine qv_iconst (v := 1) (pc := 95) g dX10_cuts_95 (by decide) ?_
          refine qv_iadd (pc := 96) g dX10_cuts_96 ?_
          refine qv_iload (pc := 97) g dX10_cuts_97 rfl ?_
          refine qv_iast (pc := 99) g h1 dX10_cuts_99 (fun M9 => ?_)
          exact qv_vret (pc := 100) g hr rfl dX10_cuts_100
      refine qv_if_le (pc := 74) (tgt := 84) g dX10_cuts_74 (by decide) ?_ ?_
      · refine qv_lv [0, 1, 4, 5] rfl ?_
        exact qk8 _
      · refine qv_aload_n (pc := 77) g dX10_cuts_77 rfl rfl ?_
        have h2 : qv_is _ T 20 600 (qv_rf T t 17) := ht.to 17 (by decide) (by decide) rfl
        refine qv_getr (pc := 78) g fw_RX10_58 ht (by decide) (by decide) rfl dX10_cuts_78 ?_
        refine qv_iload_n (pc := 81) g dX10_cuts_81 rfl rfl ?_
        refine qv_iload_n (pc := 82) g dX10_cuts_82 rfl rfl ?_
        refine qv_iast (pc := 83) g h2 dX10_cuts_83 (fun M10 => ?_)
        refine qv_lv [0, 1, 4, 5] rfl ?_
        exact qk8 _
    refine qv_lv [2, 3, 4, 5, 6, 1, 0] rfl ?_
    exact qv_L2 (Vh := fun (v11 : Int32) (M12 : qv_Mem) o => qv_V G X 7 (qv_QM G X T qv_eV (0, 0)) T (0, 0) 25 [(0, .ref (X.2.2.2 + t)), (1, .int p1), (2, .int p2), (3, .int p3), (4, .int p4), (5, .int v1), (6, .int v11)] [] M12 o) (fun _ _ => qv_none) (fun r13 qr13 v11 M12 => by
      unfold b_X10_cuts_25
      refine qv_iload (pc := 25) g dX10_cuts_25 rfl ?_
      refine qv_aload_n (pc := 27) g dX10_cuts_27 rfl rfl ?_
      refine qv_gets (pc := 28) g fw_RX10_175 ht (by decide) (by decide) rfl dX10_cuts_28 (fun v14 => ?_)
      refine qv_icmp_ge (pc := 31) (tgt := 59) g dX10_cuts_31 (by decide) ?_ ?_
      · refine qv_lv [0, 1, 2, 3, 4, 5] rfl ?_
        exact qk4 _
      · refine qv_aload_n (pc := 34) g dX10_cuts_34 rfl rfl ?_
        have h3 : qv_is _ T 20 600 (qv_rf T t 17) := ht.to 17 (by decide) (by decide) rfl
        refine qv_getr (pc := 35) g fw_RX10_58 ht (by decide) (by decide) rfl dX10_cuts_35 ?_
        refine qv_iload (pc := 38) g dX10_cuts_38 rfl ?_
        refine qv_iload_n (pc := 40) g dX10_cuts_40 rfl rfl ?_
        refine qv_isub (pc := 41) g dX10_cuts_41 ?_
        refine qv_iload (pc := 42) g dX10_cuts_42 rfl ?_
        refine qv_iadd (pc := 44) g dX10_cuts_44 ?_
        refine qv_aload_n (pc := 45) g dX10_cuts_45 rfl rfl ?_
        refine qv_getr (pc := 46) g fw_RX10_58 ht (by decide) (by decide) rfl dX10_cuts_46 ?_
        refine qv_iload (pc := 49) g dX10_cuts_49 rfl ?_
        refine qv_iald (pc := 51) g h3 dX10_cuts_51 (fun v15 => ?_)
        refine qv_iast (pc := 52) g h3 dX10_cuts_52 (fun M16 => ?_)
        refine qv_iinc (pc := 53) (v := (v11 + 1)) (lv1 := [(6, .int (v11 + 1)), (0, .ref (X.2.2.2 + t)), (1, .int p1), (2, .int p2), (3, .int p3), (4, .int p4), (5, .int v1)]) g dX10_cuts_53 rfl rfl (by decide) rfl ?_
        refine qv_goto (pc := 56) (tgt := 25) g dX10_cuts_56 (by decide) ?_
        refine qv_lv [1, 2, 3, 4, 5, 6, 0] rfl ?_
        exact qr13 _ _) _ _ _
  refine qv_if_ge (pc := 1) (tgt := 8) g dX10_cuts_1 (by decide) ?_ ?_
  · refine qv_iload (pc := 8) g dX10_cuts_8 rfl ?_
    refine qv_if_ge (pc := 10) (tgt := 17) g dX10_cuts_10 (by decide) ?_ ?_
    · refine qv_iconst (v := 2) (pc := 17) g dX10_cuts_17 (by decide) ?_
      exact qk2 _
    · refine qv_iconst (v := 1) (pc := 13) g dX10_cuts_13 (by decide) ?_
      refine qv_goto (pc := 14) (tgt := 18) g dX10_cuts_14 (by decide) ?_
      exact qk2 _
  · refine qv_iconst (v := 0) (pc := 4) g dX10_cuts_4 (by decide) ?_
    refine qv_goto (pc := 5) (tgt := 18) g dX10_cuts_5 (by decide) ?_
    exact qk2 _

set_option maxHeartbeats 4000000 in
set_option maxRecDepth 100000 in
theorem c_X10_isRuled (l : Launch) (X : qv_X) (d : Nat) (T : List qv_Ent) (t : Nat) (p1 : Int32) (M : qv_Mem) {nt : Nat} (ht : qv_is (nt + 1) T 10 29 t) : qv_Ok l X yX10_isRuled cX10_isRuled 3 (some .boolean) (d + 1) T M [.ref (X.2.2.2 + t), .int p1] qv_eIM (f_X10_isRuled T t p1 M) := by
  refine qv_mk (lv := [(0, .ref (X.2.2.2 + t)), (1, .int p1)]) (by decide) (Nat.le_of_ble_eq_true rfl) rfl (fun G hG hRm g hr => ?_)
  have g : qv_ok G X cX10_isRuled RX10 3 := g
  unfold f_X10_isRuled
  refine qv_aload_n (pc := 0) g dX10_isRuled_0 rfl rfl ?_
  refine qv_iload_n (pc := 1) g dX10_isRuled_1 rfl rfl ?_
  refine qv_iconst (v := 0) (pc := 2) g dX10_isRuled_2 (by decide) ?_
  refine qv_iconst (v := 0) (pc := 3) g dX10_isRuled_3 (by decide) ?_
  refine qv_aI rfl (qv_cv (pc := 4) g (c_X10_isPair (gl G) X d T _ _ _ _ M ht) (qv_R hRm (by omega) (by decide)) ⟨Nat.zero_le _, Nat.zero_le _⟩ mw_X10_isPair lk_RX10_200 im_X10_isPair se_X10_isPair (by decide) rfl ht pd_X10_isPair rfl (Nat.le_of_ble_eq_true rfl) dX10_isRuled_4) (fun v1 => ?_)
  refine qv_join (fun (k2 : Unit → Option (Int32 × qv_Mem)) => ∀ (_ : Unit), qv_V G X 3 (qv_QM G X T qv_eIM (0, 0)) T (0, 0) 52 [(0, .ref (X.2.2.2 + t)), (1, .int p1)] [] M (k2 ())) (fun _ => ?_) (fun k2 qk2 => ?_)
  · refine qv_aload_n (pc := 52) g dX10_isRuled_52 rfl rfl ?_
    refine qv_iload_n (pc := 53) g dX10_isRuled_53 rfl rfl ?_
    refine qv_iconst (v := 2) (pc := 54) g dX10_isRuled_54 (by decide) ?_
    refine qv_bipush (v := (-2)) (pc := 55) g dX10_isRuled_55 (by decide) ?_
    refine qv_bipush (v := (-2)) (pc := 57) g dX10_isRuled_57 (by decide) ?_
    refine qv_aV (qv_cv (pc := 59) g (c_X10_cuts (gl G) X d T _ _ _ _ _ M ht) (qv_R hRm (by omega) (by decide)) ⟨Nat.zero_le _, Nat.zero_le _⟩ mw_X10_cuts lk_RX10_204 im_X10_cuts se_X10_cuts (by decide) rfl ht pd_X10_cuts rfl (Nat.le_of_ble_eq_true rfl) dX10_isRuled_59) (fun M3 => ?_)
    refine qv_iconst (v := 1) (pc := 62) g dX10_isRuled_62 (by decide) ?_
    exact qv_zret (pc := 63) g hr rfl rfl dX10_isRuled_63
  refine qv_if_ne (pc := 7) (tgt := 52) g dX10_isRuled_7 (by decide) ?_ ?_
  · exact qk2 ()
  · refine qv_aload_n (pc := 10) g dX10_isRuled_10 rfl rfl ?_
    refine qv_iload_n (pc := 11) g dX10_isRuled_11 rfl rfl ?_
    refine qv_iconst (v := 3) (pc := 12) g dX10_isRuled_12 (by decide) ?_
    refine qv_iconst (v := 3) (pc := 13) g dX10_isRuled_13 (by decide) ?_
    refine qv_aI rfl (qv_cv (pc := 14) g (c_X10_isPair (gl G) X d T _ _ _ _ M ht) (qv_R hRm (by omega) (by decide)) ⟨Nat.zero_le _, Nat.zero_le _⟩ mw_X10_isPair lk_RX10_200 im_X10_isPair se_X10_isPair (by decide) rfl ht pd_X10_isPair rfl (Nat.le_of_ble_eq_true rfl) dX10_isRuled_14) (fun v4 => ?_)
    refine qv_if_ne (pc := 17) (tgt := 52) g dX10_isRuled_17 (by decide) ?_ ?_
    · exact qk2 ()
    · refine qv_aload_n (pc := 20) g dX10_isRuled_20 rfl rfl ?_
      refine qv_iload_n (pc := 21) g dX10_isRuled_21 rfl rfl ?_
      refine qv_iconst (v := 4) (pc := 22) g dX10_isRuled_22 (by decide) ?_
      refine qv_iconst (v := 4) (pc := 23) g dX10_isRuled_23 (by decide) ?_
      refine qv_aI rfl (qv_cv (pc := 24) g (c_X10_isPair (gl G) X d T _ _ _ _ M ht) (qv_R hRm (by omega) (by decide)) ⟨Nat.zero_le _, Nat.zero_le _⟩ mw_X10_isPair lk_RX10_200 im_X10_isPair se_X10_isPair (by decide) rfl ht pd_X10_isPair rfl (Nat.le_of_ble_eq_true rfl) dX10_isRuled_24) (fun v5 => ?_)
      refine qv_if_ne (pc := 27) (tgt := 52) g dX10_isRuled_27 (by decide) ?_ ?_
      · exact qk2 ()
      · refine qv_aload_n (pc := 30) g dX10_isRuled_30 rfl rfl ?_
        refine qv_iload_n (pc := 31) g dX10_isRuled_31 rfl rfl ?_
        refine qv_iconst (v := 1) (pc := 32) g dX10_isRuled_32 (by decide) ?_
        refine qv_bipush (v := 6) (pc := 33) g dX10_isRuled_33 (by decide) ?_
        refine qv_aI rfl (qv_cv (pc := 35) g (c_X10_isPair (gl G) X d T _ _ _ _ M ht) (qv_R hRm (by omega) (by decide)) ⟨Nat.zero_le _, Nat.zero_le _⟩ mw_X10_isPair lk_RX10_200 im_X10_isPair se_X10_isPair (by decide) rfl ht pd_X10_isPair rfl (Nat.le_of_ble_eq_true rfl) dX10_isRuled_35) (fun v6 => ?_)
        refine qv_if_ne (pc := 38) (tgt := 52) g dX10_isRuled_38 (by decide) ?_ ?_
        · exact qk2 ()
        · refine qv_aload_n (pc := 41) g dX10_isRuled_41 rfl rfl ?_
          refine qv_iload_n (pc := 42) g dX10_isRuled_42 rfl rfl ?_
          refine qv_bipush (v := 6) (pc := 43) g dX10_isRuled_43 (by decide) ?_
          refine qv_iconst (v := 1) (pc := 45) g dX10_isRuled_45 (by decide) ?_
          refine qv_aI rfl (qv_cv (pc := 46) g (c_X10_isPair (gl G) X d T _ _ _ _ M ht) (qv_R hRm (by omega) (by decide)) ⟨Nat.zero_le _, Nat.zero_le _⟩ mw_X10_isPair lk_RX10_200 im_X10_isPair se_X10_isPair (by decide) rfl ht pd_X10_isPair rfl (Nat.le_of_ble_eq_true rfl) dX10_isRuled_46) (fun v7 => ?_)
          refine qv_if_eq (pc := 49) (tgt := 64) g dX10_isRuled_49 (by decide) ?_ ?_
          · refine qv_iconst (v := 0) (pc := 64) g dX10_isRuled_64 (by decide) ?_
            refine qv_istore_n (pc := 65) (lv1 := [(2, .int 0), (0, .ref (X.2.2.2 + t)), (1, .int p1)]) g dX10_isRuled_65 rfl (by decide) rfl ?_
            refine qv_join (fun (k9 : Int32 → Option (Int32 × qv_Mem)) => ∀ (v8 : Int32), qv_V G X 3 (qv_QM G X T qv_eIM (0, 0)) T (0, 0) 100 [(0, .ref (X.2.2.2 + t)), (1, .int p1), (2, .int v8)] [] M (k9 v8)) (fun v8 => ?_) (fun k9 qk9 => ?_)
            · refine qv_iload_n (pc := 100) g dX10_isRuled_100 rfl rfl ?_
              refine qv_bipush (v := 8) (pc := 101) g dX10_isRuled_101 (by decide) ?_
              refine qv_icmp_ne (pc := 103) (tgt := 119) g dX10_isRuled_103 (by decide) ?_ ?_
              · refine qv_aload_n (pc := 119) g dX10_isRuled_119 rfl rfl ?_
                refine qv_iload_n (pc := 120) g dX10_isRuled_120 rfl rfl ?_
                refine qv_iconst (v := 1) (pc := 121) g dX10_isRuled_121 (by decide) ?_
                refine qv_iconst (v := 1) (pc := 122) g dX10_isRuled_122 (by decide) ?_
                refine qv_aI rfl (qv_cv (pc := 123) g (c_X10_isPair (gl G) X d T _ _ _ _ M ht) (qv_R hRm (by omega) (by decide)) ⟨Nat.zero_le _, Nat.zero_le _⟩ mw_X10_isPair lk_RX10_200 im_X10_isPair se_X10_isPair (by decide) rfl ht pd_X10_isPair rfl (Nat.le_of_ble_eq_true rfl) dX10_isRuled_123) (fun v10 => ?_)
                refine qv_if_eq (pc := 126) (tgt := 140) g dX10_isRuled_126 (by decide) ?_ ?_
                · refine qv_aload_n (pc := 140) g dX10_isRuled_140 rfl rfl ?_
                  refine qv_iload_n (pc := 141) g dX10_isRuled_141 rfl rfl ?_
                  refine qv_bipush (v := 6) (pc := 142) g dX10_isRuled_142 (by decide) ?_
                  refine qv_bipush (v := 6) (pc := 144) g dX10_isRuled_144 (by decide) ?_
                  refine qv_aI rfl (qv_cv (pc := 146) g (c_X10_isPair (gl G) X d T _ _ _ _ M ht) (qv_R hRm (by omega) (by decide)) ⟨Nat.zero_le _, Nat.zero_le _⟩ mw_X10_isPair lk_RX10_200 im_X10_isPair se_X10_isPair (by decide) rfl ht pd_X10_isPair rfl (Nat.le_of_ble_eq_true rfl) dX10_isRuled_146) (fun v11 => ?_)
                  refine qv_if_eq (pc := 149) (tgt := 162) g dX10_isRuled_149 (by decide) ?_ ?_
                  · refine qv_aload_n (pc := 162) g dX10_isRuled_162 rfl rfl ?_
                    refine qv_iload_n (pc := 163) g dX10_isRuled_163 rfl rfl ?_
                    refine qv_iconst (v := 2) (pc := 164) g dX10_isRuled_164 (by decide) ?_
                    refine qv_iconst (v := 2) (pc := 165) g dX10_isRuled_165 (by decide) ?_
                    refine qv_aI rfl (qv_cv (pc := 166) g (c_X10_isPair (gl G) X d T _ _ _ _ M ht) (qv_R hRm (by omega) (by decide)) ⟨Nat.zero_le _, Nat.zero_le _⟩ mw_X10_isPair lk_RX10_200 im_X10_isPair se_X10_isPair (by decide) rfl ht pd_X10_isPair rfl (Nat.le_of_ble_eq_true rfl) dX10_isRuled_166) (fun v12 => ?_)
                    refine qv_if_eq (pc := 169) (tgt := 183) g dX10_isRuled_169 (by decide) ?_ ?_
                    · refine qv_aload_n (pc := 183) g dX10_isRuled_183 rfl rfl ?_
                      refine qv_iload_n (pc := 184) g dX10_isRuled_184 rfl rfl ?_
                      refine qv_iconst (v := 2) (pc := 185) g dX10_isRuled_185 (by decide) ?_
                      refine qv_bipush (v := 6) (pc := 186) g dX10_isRuled_186 (by decide) ?_
                      refine qv_aI rfl (qv_cv (pc := 188) g (c_X10_isPair (gl G) X d T _ _ _ _ M ht) (qv_R hRm (by omega) (by decide)) ⟨Nat.zero_le _, Nat.zero_le _⟩ mw_X10_isPair lk_RX10_200 im_X10_isPair se_X10_isPair (by decide) rfl ht pd_X10_isPair rfl (Nat.le_of_ble_eq_true rfl) dX10_isRuled_188) (fun v13 => ?_)
                      refine qv_join (fun (k14 : Unit → Option (Int32 × qv_Mem)) => ∀ (_ : Unit), qv_V G X 3 (qv_QM G X T qv_eIM (0, 0)) T (0, 0) 205 [(0, .ref (X.2.2.2 + t)), (1, .int p1)] [] M (k14 ())) (fun _ => ?_) (fun k14 qk14 => ?_)
                      · refine qv_aload_n (pc := 205) g dX10_isRuled_205 rfl rfl ?_
                        refine qv_iload_n (pc := 206) g dX10_isRuled_206 rfl rfl ?_
                        refine qv_iconst (v := 2) (pc := 207) g dX10_isRuled_207 (by decide) ?_
                        refine qv_iconst (v := 1) (pc := 208) g dX10_isRuled_208 (by decide) ?_
                        refine qv_bipush (v := (-2)) (pc := 209) g dX10_isRuled_209 (by decide) ?_
                        refine qv_aV (qv_cv (pc := 211) g (c_X10_cuts (gl G) X d T _ _ _ _ _ M ht) (qv_R hRm (by omega) (by decide)) ⟨Nat.zero_le _, Nat.zero_le _⟩ mw_X10_cuts lk_RX10_204 im_X10_cuts se_X10_cuts (by decide) rfl ht pd_X10_cuts rfl (Nat.le_of_ble_eq_true rfl) dX10_isRuled_211) (fun M15 => ?_)
                        refine qv_iconst (v := 1) (pc := 214) g dX10_isRuled_214 (by decide) ?_
                        exact qv_zret (pc := 215) g hr rfl rfl dX10_isRuled_215
                      refine qv_if_ne (pc := 191) (tgt := 205) g dX10_isRuled_191 (by decide) ?_ ?_
                      · refine qv_lv [0, 1] rfl ?_
                        exact qk14 ()
                      · refine qv_aload_n (pc := 194) g dX10_isRuled_194 rfl rfl ?_
                        refine qv_iload_n (pc := 195) g dX10_isRuled_195 rfl rfl ?_
                        refine qv_bipush (v := 6) (pc := 196) g dX10_isRuled_196 (by decide) ?_
                        refine qv_iconst (v := 2) (pc := 198) g dX10_isRuled_198 (by decide) ?_
                        refine qv_aI rfl (qv_cv (pc := 199) g (c_X10_isPair (gl G) X d T _ _ _ _ M ht) (qv_R hRm (by omega) (by decide)) ⟨Nat.zero_le _, Nat.zero_le _⟩ mw_X10_isPair lk_RX10_200 im_X10_isPair se_X10_isPair (by decide) rfl ht pd_X10_isPair rfl (Nat.le_of_ble_eq_true rfl) dX10_isRuled_199) (fun v16 => ?_)
                        refine qv_if_eq (pc := 202) (tgt := 216) g dX10_isRuled_202 (by decide) ?_ ?_
                        · refine qv_iconst (v := 0) (pc := 216) g dX10_isRuled_216 (by decide) ?_
                          exact qv_zret (pc := 217) g hr rfl rfl dX10_isRuled_217
                        · refine qv_lv [0, 1] rfl ?_
                          exact qk14 ()
                    · refine qv_aload_n (pc := 172) g dX10_isRuled_172 rfl rfl ?_
                      refine qv_iload_n (pc := 173) g dX10_isRuled_173 rfl rfl ?_
                      refine qv_iconst (v := 2) (pc := 174) g dX10_isRuled_174 (by decide) ?_
                      refine qv_iconst (v := 4) (pc := 175) g dX10_isRuled_175 (by decide) ?_
                      refine qv_bipush (v := (-2)) (pc := 176) g dX10_isRuled_176 (by decide) ?_
                      refine qv_aV (qv_cv (pc := 178) g (c_X10_cuts (gl G) X d T _ _ _ _ _ M ht) (qv_R hRm (by omega) (by decide)) ⟨Nat.zero_le _, Nat.zero_le _⟩ mw_X10_cuts lk_RX10_204 im_X10_cuts se_X10_cuts (by decide) rfl ht pd_X10_cuts rfl (Nat.le_of_ble_eq_true rfl) dX10_isRuled_178) (fun M17 => ?_)
                      refine qv_iconst (v := 1) (pc := 181) g dX10_isRuled_181 (by decide) ?_
                      exact qv_zret (pc := 182) g hr rfl rfl dX10_isRuled_182
                  · refine qv_aload_n (pc := 152) g dX10_isRuled_152 rfl rfl ?_
                    refine qv_iload_n (pc := 153) g dX10_isRuled_153 rfl rfl ?_
                    refine qv_iconst (v := 2) (pc := 154) g dX10_isRuled_154 (by decide) ?_
                    refine qv_iconst (v := 2) (pc := 155) g dX10_isRuled_155 (by decide) ?_
                    refine qv_iconst (v := 4) (pc := 156) g dX10_isRuled_156 (by decide) ?_
                    refine qv_aV (qv_cv (pc := 157) g (c_X10_cuts (gl G) X d T _ _ _ _ _ M ht) (qv_R hRm (by omega) (by decide)) ⟨Nat.zero_le _, Nat.zero_le _⟩ mw_X10_cuts lk_RX10_204 im_X10_cuts se_X10_cuts (by decide) rfl ht pd_X10_cuts rfl (Nat.le_of_ble_eq_true rfl) dX10_isRuled_157) (fun M18 => ?_)
                    refine qv_iconst (v := 1) (pc := 160) g dX10_isRuled_160 (by decide) ?_
                    exact qv_zret (pc := 161) g hr rfl rfl dX10_isRuled_161
                · refine qv_aload_n (pc := 129) g dX10_isRuled_129 rfl rfl ?_
                  refine qv_iload_n (pc := 130) g dX10_isRuled_130 rfl rfl ?_
                  refine qv_iconst (v := 2) (pc := 131) g dX10_isRuled_131 (by decide) ?_
                  refine qv_iconst (v := 2) (pc := 132) g dX10_isRuled_132 (by decide) ?_
                  refine qv_bipush (v := (-2)) (pc := 133) g dX10_isRuled_133 (by decide) ?_
                  refine qv_aV (qv_cv (pc := 135) g (c_X10_cuts (gl G) X d T _ _ _ _ _ M ht) (qv_R hRm (by omega) (by decide)) ⟨Nat.zero_le _, Nat.zero_le _⟩ mw_X10_cuts lk_RX10_204 im_X10_cuts se_X10_cuts (by decide) rfl ht pd_X10_cuts rfl (Nat.le_of_ble_eq_true rfl) dX10_isRuled_135) (fun M19 => ?_)
                  refine qv_iconst (v := 1) (pc := 138) g dX10_isRuled_138 (by decide) ?_
                  exact qv_zret (pc := 139) g hr rfl rfl dX10_isRuled_139
              · refine qv_aload_n (pc := 106) g dX10_isRuled_106 rfl rfl ?_
                refine qv_iload_n (pc := 107) g dX10_isRuled_107 rfl rfl ?_
                refine qv_bipush (v := 8) (pc := 108) g dX10_isRuled_108 (by decide) ?_
                refine qv_bipush (v := (-2)) (pc := 110) g dX10_isRuled_110 (by decide) ?_
                refine qv_bipush (v := (-2)) (pc := 112) g dX10_isRuled_112 (by decide) ?_
                refine qv_aV (qv_cv (pc := 114) g (c_X10_cuts (gl G) X d T _ _ _ _ _ M ht) (qv_R hRm (by omega) (by decide)) ⟨Nat.zero_le _, Nat.zero_le _⟩ mw_X10_cuts lk_RX10_204 im_X10_cuts se_X10_cuts (by decide) rfl ht pd_X10_cuts rfl (Nat.le_of_ble_eq_true rfl) dX10_isRuled_114) (fun M20 => ?_)
                refine qv_iconst (v := 1) (pc := 117) g dX10_isRuled_117 (by decide) ?_
                exact qv_zret (pc := 118) g hr rfl rfl dX10_isRuled_118
            refine qv_lv [1, 2, 0] rfl ?_
            exact qv_L1 (Vh := fun (v21 : Int32) o => qv_V G X 3 (qv_QM G X T qv_eIM (0, 0)) T (0, 0) 66 [(0, .ref (X.2.2.2 + t)), (1, .int p1), (2, .int v21)] [] M o) (fun _ => qv_none) (fun r22 qr22 v21 => by
              unfold b_X10_isRuled_66
              refine qv_iload_n (pc := 66) g dX10_isRuled_66 rfl rfl ?_
              refine qv_bipush (v := 8) (pc := 67) g dX10_isRuled_67 (by decide) ?_
              refine qv_icmp_ge (pc := 69) (tgt := 100) g dX10_isRuled_69 (by decide) ?_ ?_
              · exact qk9 _
              · refine qv_iload_n (pc := 72) g dX10_isRuled_72 rfl rfl ?_
                refine qv_iload_n (pc := 73) g dX10_isRuled_73 rfl rfl ?_
                refine qv_iadd (pc := 74) g dX10_isRuled_74 ?_
                refine qv_aload_n (pc := 75) g dX10_isRuled_75 rfl rfl ?_
                refine qv_gets (pc := 76) g fw_RX10_175 ht (by decide) (by decide) rfl dX10_isRuled_76 (fun v23 => ?_)
                refine qv_icmp_ge (pc := 79) (tgt := 100) g dX10_isRuled_79 (by decide) ?_ ?_
                · exact qk9 _
                · refine qv_aload_n (pc := 82) g dX10_isRuled_82 rfl rfl ?_
                  have h1 : qv_is _ T 20 600 (qv_rf T t 17) := ht.to 17 (by decide) (by decide) rfl
                  refine qv_getr (pc := 83) g fw_RX10_58 ht (by decide) (by decide) rfl dX10_isRuled_83 ?_
                  refine qv_iload_n (pc := 86) g dX10_isRuled_86 rfl rfl ?_
                  refine qv_iload_n (pc := 87) g dX10_isRuled_87 rfl rfl ?_
                  refine qv_iadd (pc := 88) g dX10_isRuled_88 ?_
                  refine qv_iald (pc := 89) g h1 dX10_isRuled_89 (fun v24 => ?_)
                  refine qv_iconst (v := 5) (pc := 90) g dX10_isRuled_90 (by decide) ?_
                  refine qv_icmp_ne (pc := 91) (tgt := 100) g dX10_isRuled_91 (by decide) ?_ ?_
                  · exact qk9 _
                  · refine qv_iinc (pc := 94) (v := (v21 + 1)) (lv1 := [(2, .int (v21 + 1)), (0, .ref (X.2.2.2 + t)), (1, .int p1)]) g dX10_isRuled_94 rfl rfl (by decide) rfl ?_
                    refine qv_goto (pc := 97) (tgt := 66) g dX10_isRuled_97 (by decide) ?_
                    refine qv_lv [1, 2, 0] rfl ?_
                    exact qr22 _) _ _
          · exact qk2 ()

set_option maxHeartbeats 4000000 in
set_option maxRecDepth 100000 in
theorem c_X10_shorter (l : Launch) (X : qv_X) (d : Nat) (T : List qv_Ent) (t : Nat) (p1 : Int32) (M : qv_Mem) {nt : Nat} (ht : qv_is (nt + 1) T 10 29 t) : qv_Ok l X yX10_shorter cX10_shorter 3 (some .int) (d + 2) T M [.ref (X.2.2.2 + t), .int p1] qv_eIM (f_X10_shorter T t p1 M) := by
  refine qv_mk (lv := [(0, .ref (X.2.2.2 + t)), (1, .int p1)]) (by decide) (Nat.le_of_ble_eq_true rfl) rfl (fun G hG hRm g hr => ?_)
  have g : qv_ok G X cX10_shorter RX10 3 := g
  unfold f_X10_shorter
  refine qv_iload_n (pc := 0) g dX10_shorter_0 rfl rfl ?_
  refine qv_aI rfl (qv_cs (pc := 1) g (c_X10_isWord (gl G) X d T _ M) (qv_R hRm (by omega) (by decide)) ⟨Nat.zero_le _, Nat.zero_le _⟩ mw_X10_isWord lk_RX10_187 st_X10_isWord pd_X10_isWord rfl (Nat.le_of_ble_eq_true rfl) dX10_shorter_1) (fun v1 => ?_)
  refine qv_if_ne (pc := 4) (tgt := 9) g dX10_shorter_4 (by decide) ?_ ?_
  · refine qv_aload_n (pc := 9) g dX10_shorter_9 rfl rfl ?_
    refine qv_iload_n (pc := 10) g dX10_shorter_10 rfl rfl ?_
    refine qv_aV (qv_cv (pc := 11) g (c_X10_takes (gl G) X (d + 1) T _ _ M ht) (qv_R hRm (by omega) (by decide)) ⟨Nat.zero_le _, Nat.zero_le _⟩ mw_X10_takes lk_RX10_190 im_X10_takes se_X10_takes (by decide) rfl ht pd_X10_takes rfl (Nat.le_of_ble_eq_true rfl) dX10_shorter_11) (fun M2 => ?_)
    refine qv_iconst (v := 0) (pc := 14) g dX10_shorter_14 (by decide) ?_
    refine qv_istore_n (pc := 15) (lv1 := [(2, .int 0), (0, .ref (X.2.2.2 + t)), (1, .int p1)]) g dX10_shorter_15 rfl (by decide) rfl ?_
    refine qv_join (fun (k4 : qv_Mem → Option (Int32 × qv_Mem)) => ∀ (M3 : qv_Mem), qv_V G X 3 (qv_QM G X T qv_eIM (0, 0)) T (0, 0) 43 [(0, .ref (X.2.2.2 + t)), (1, .int p1)] [] M3 (k4 M3)) (fun M3 => ?_) (fun k4 qk4 => ?_)
    · refine qv_aload_n (pc := 43) g dX10_shorter_43 rfl rfl ?_
      refine qv_iload_n (pc := 44) g dX10_shorter_44 rfl rfl ?_
      refine qv_aIM (qv_cv (pc := 45) g (c_X10_becomes (gl G) X d T _ _ M3 ht) (qv_R hRm (by omega) (by decide)) ⟨Nat.zero_le _, Nat.zero_le _⟩ mw_X10_becomes lk_RX10_193 im_X10_becomes se_X10_becomes (by decide) rfl ht pd_X10_becomes rfl (Nat.le_of_ble_eq_true rfl) dX10_shorter_45) (fun v5 M6 => ?_)
      exact qv_iret (pc := 48) g hr rfl dX10_shorter_48
    refine qv_lv [1, 2, 0] rfl ?_
    exact qv_L2 (Vh := fun (v7 : Int32) (M8 : qv_Mem) o => qv_V G X 3 (qv_QM G X T qv_eIM (0, 0)) T (0, 0) 16 [(0, .ref (X.2.2.2 + t)), (1, .int p1), (2, .int v7)] [] M8 o) (fun _ _ => qv_none) (fun r9 qr9 v7 M8 => by
      unfold b_X10_shorter_16
      refine qv_iload_n (pc := 16) g dX10_shorter_16 rfl rfl ?_
      refine qv_aload_n (pc := 17) g dX10_shorter_17 rfl rfl ?_
      refine qv_gets (pc := 18) g fw_RX10_175 ht (by decide) (by decide) rfl dX10_shorter_18 (fun v10 => ?_)
      refine qv_icmp_ge (pc := 21) (tgt := 43) g dX10_shorter_21 (by decide) ?_ ?_
      · refine qv_lv [0, 1] rfl ?_
        exact qk4 _
      · refine qv_aload_n (pc := 24) g dX10_shorter_24 rfl rfl ?_
        refine qv_iload_n (pc := 25) g dX10_shorter_25 rfl rfl ?_
        refine qv_aIM (qv_cv (pc := 26) g (c_X10_isRuled (gl G) X d T _ _ M8 ht) (qv_R hRm (by omega) (by decide)) ⟨Nat.zero_le _, Nat.zero_le _⟩ mw_X10_isRuled lk_RX10_208 im_X10_isRuled se_X10_isRuled (by decide) rfl ht pd_X10_isRuled rfl (Nat.le_of_ble_eq_true rfl) dX10_shorter_26) (fun v11 M12 => ?_)
        refine qv_join (fun (k14 : Int32 → Option (Int32 × qv_Mem)) => ∀ (v13 : Int32), qv_V G X 3 (qv_QM G X T qv_eIM (0, 0)) T (0, 0) 39 [(0, .ref (X.2.2.2 + t)), (1, .int p1)] [.int v13] M12 (k14 v13)) (fun v13 => ?_) (fun k14 qk14 => ?_)
        · refine qv_istore_n (pc := 39) (lv1 := [(2, .int v13), (0, .ref (X.2.2.2 + t)), (1, .int p1)]) g dX10_shorter_39 rfl (by decide) rfl ?_
          refine qv_goto (pc := 40) (tgt := 16) g dX10_shorter_40 (by decide) ?_
          refine qv_lv [1, 2, 0] rfl ?_
          exact qr9 _ _
        refine qv_if_eq (pc := 29) (tgt := 36) g dX10_shorter_29 (by decide) ?_ ?_
        · refine qv_iload_n (pc := 36) g dX10_shorter_36 rfl rfl ?_
          refine qv_iconst (v := 1) (pc := 37) g dX10_shorter_37 (by decide) ?_
          refine qv_iadd (pc := 38) g dX10_shorter_38 ?_
          refine qv_lv [0, 1] rfl ?_
          exact qk14 _
        · refine qv_iconst (v := 0) (pc := 32) g dX10_shorter_32 (by decide) ?_
          refine qv_goto (pc := 33) (tgt := 39) g dX10_shorter_33 (by decide) ?_
          refine qv_lv [0, 1] rfl ?_
          exact qk14 _) _ _ _
  · refine qv_iconst (v := (-1)) (pc := 7) g dX10_shorter_7 (by decide) ?_
    exact qv_iret (pc := 8) g hr rfl dX10_shorter_8

set_option maxHeartbeats 4000000 in
set_option maxRecDepth 100000 in
theorem c_X10_isLess (l : Launch) (X : qv_X) (d : Nat) (T : List qv_Ent) (t : Nat) (p1 : Int32) (p2 : Int32) (M : qv_Mem) {nt : Nat} (ht : qv_is (nt + 1) T 10 29 t) : qv_Ok l X yX10_isLess cX10_isLess 4 (some .boolean) (d + 4) T M [.ref (X.2.2.2 + t), .int p1, .int p2] qv_eIM (f_X10_isLess T t p1 p2 M) := by
  refine qv_mk (lv := [(0, .ref (X.2.2.2 + t)), (1, .int p1), (2, .int p2)]) (by decide) (Nat.le_of_ble_eq_true rfl) rfl (fun G hG hRm g hr => ?_)
  have g : qv_ok G X cX10_isLess RX10 4 := g
  unfold f_X10_isLess
  refine qv_aload_n (pc := 0) g dX10_isLess_0 rfl rfl ?_
  refine qv_bipush (v := 18) (pc := 1) g dX10_isLess_1 (by decide) ?_
  refine qv_bipush (v := 15) (pc := 3) g dX10_isLess_3 (by decide) ?_
  refine qv_aV (qv_cv (pc := 5) g (c_X10_copies (gl G) X (d + 3) T _ _ _ M ht) (qv_R hRm (by omega) (by decide)) ⟨Nat.zero_le _, Nat.zero_le _⟩ mw_X10_copies lk_RX10_83 im_X10_copies se_X10_copies (by decide) rfl ht pd_X10_copies rfl (Nat.le_of_ble_eq_true rfl) dX10_isLess_5) (fun M1 => ?_)
  refine qv_iload_n (pc := 8) g dX10_isLess_8 rfl rfl ?_
  refine qv_istore_n (pc := 9) (lv1 := [(3, .int p1), (0, .ref (X.2.2.2 + t)), (1, .int p1), (2, .int p2)]) g dX10_isLess_9 rfl (by decide) rfl ?_
  refine qv_join (fun (k3 : qv_Mem → Option (Int32 × qv_Mem)) => ∀ (M2 : qv_Mem), qv_V G X 4 (qv_QM G X T qv_eIM (0, 0)) T (0, 0) 57 [(0, .ref (X.2.2.2 + t)), (1, .int p1), (2, .int p2)] [] M2 (k3 M2)) (fun M2 => ?_) (fun k3 qk3 => ?_)
  · refine qv_aload_n (pc := 57) g dX10_isLess_57 rfl rfl ?_
    refine qv_bipush (v := 15) (pc := 58) g dX10_isLess_58 (by decide) ?_
    refine qv_aIM (qv_cv (pc := 60) g (c_X10_channels (gl G) X d T _ _ M2 ht) (qv_R hRm (by omega) (by decide)) ⟨Nat.zero_le _, Nat.zero_le _⟩ mw_X10_channels lk_RX10_147 im_X10_channels se_X10_channels (by decide) rfl ht pd_X10_channels rfl (Nat.le_of_ble_eq_true rfl) dX10_isLess_60) (fun v4 M5 => ?_)
    refine qv_iload_n (pc := 63) g dX10_isLess_63 rfl rfl ?_
    refine qv_iconst (v := 1) (pc := 64) g dX10_isLess_64 (by decide) ?_
    refine qv_isub (pc := 65) g dX10_isLess_65 ?_
    refine qv_icmp_eq (pc := 66) (tgt := 71) g dX10_isLess_66 (by decide) ?_ ?_
    · refine qv_aload_n (pc := 71) g dX10_isLess_71 rfl rfl ?_
      refine qv_bipush (v := 15) (pc := 72) g dX10_isLess_72 (by decide) ?_
      refine qv_bipush (v := 18) (pc := 74) g dX10_isLess_74 (by decide) ?_
      refine qv_aV (qv_cv (pc := 76) g (c_X10_copies (gl G) X (d + 3) T _ _ _ M5 ht) (qv_R hRm (by omega) (by decide)) ⟨Nat.zero_le _, Nat.zero_le _⟩ mw_X10_copies lk_RX10_83 im_X10_copies se_X10_copies (by decide) rfl ht pd_X10_copies rfl (Nat.le_of_ble_eq_true rfl) dX10_isLess_76) (fun M6 => ?_)
      refine qv_iload_n (pc := 79) g dX10_isLess_79 rfl rfl ?_
      refine qv_istore_n (pc := 80) (lv1 := [(3, .int p1), (0, .ref (X.2.2.2 + t)), (1, .int p1), (2, .int p2)]) g dX10_isLess_80 rfl (by decide) rfl ?_
      refine qv_join (fun (k8 : qv_Mem → Option (Int32 × qv_Mem)) => ∀ (M7 : qv_Mem), qv_V G X 4 (qv_QM G X T qv_eIM (0, 0)) T (0, 0) 138 [] [] M7 (k8 M7)) (fun M7 => ?_) (fun k8 qk8 => ?_)
      · refine qv_iconst (v := 1) (pc := 138) g dX10_isLess_138 (by decide) ?_
        exact qv_zret (pc := 139) g hr rfl rfl dX10_isLess_139
      refine qv_lv [1, 0] rfl ?_
      exact qv_L2 (Vh := fun (v9 : Int32) (M10 : qv_Mem) o => qv_V G X 4 (qv_QM G X T qv_eIM (0, 0)) T (0, 0) 81 [(0, .ref (X.2.2.2 + t)), (3, .int v9)] [] M10 o) (fun _ _ => qv_none) (fun r11 qr11 v9 M10 => by
        unfold b_X10_isLess_81
        refine qv_iload_n (pc := 81) g dX10_isLess_81 rfl rfl ?_
        refine qv_if_lt (pc := 82) (tgt := 138) g dX10_isLess_82 (by decide) ?_ ?_
        · refine qv_lv [] rfl ?_
          exact qk8 _
        · refine qv_aload_n (pc := 85) g dX10_isLess_85 rfl rfl ?_
          refine qv_gets (pc := 86) g fw_RX10_175 ht (by decide) (by decide) rfl dX10_isLess_86 (fun v12 => ?_)
          refine qv_bipush (v := 60) (pc := 89) g dX10_isLess_89 (by decide) ?_
          refine qv_icmp_gt (pc := 91) (tgt := 138) g dX10_isLess_91 (by decide) ?_ ?_
          · refine qv_lv [] rfl ?_
            exact qk8 _
          · refine qv_aload_n (pc := 94) g dX10_isLess_94 rfl rfl ?_
            have h1 : qv_is _ T 20 600 (qv_rf T t 17) := ht.to 17 (by decide) (by decide) rfl
            refine qv_getr (pc := 95) g fw_RX10_58 ht (by decide) (by decide) rfl dX10_isLess_95 ?_
            refine qv_aload_n (pc := 98) g dX10_isLess_98 rfl rfl ?_
            refine qv_gets (pc := 99) g fw_RX10_175 ht (by decide) (by decide) rfl dX10_isLess_99 (fun v13 => ?_)
            refine qv_iload_n (pc := 102) g dX10_isLess_102 rfl rfl ?_
            refine qv_iconst (v := 2) (pc := 103) g dX10_isLess_103 (by decide) ?_
            refine qv_join (fun (k15 : Int32 → Option (Int32 × qv_Mem)) => ∀ (v14 : Int32), qv_V G X 4 (qv_QM G X T qv_eIM (0, 0)) T (0, 0) 121 [(0, .ref (X.2.2.2 + t)), (3, .int v9)] [.int v14, .int v13, .ref (X.2.2.2 + (qv_rf T t 17))] M10 (k15 v14)) (fun v14 => ?_) (fun k15 qk15 => ?_)
            · refine qv_iast (pc := 121) g h1 dX10_isLess_121 (fun M16 => ?_)
              refine qv_aload_n (pc := 122) g dX10_isLess_122 rfl rfl ?_
              refine qv_dup (pc := 123) g dX10_isLess_123 rfl ?_
              refine qv_gets (pc := 124) g fw_RX10_175 ht (by decide) (by decide) rfl dX10_isLess_124 (fun v17 => ?_)
              refine qv_iconst (v := 1) (pc := 127) g dX10_isLess_127 (by decide) ?_
              refine qv_iadd (pc := 128) g dX10_isLess_128 ?_
              refine qv_puti (pc := 129) g pw_RX10_175 ht (by decide) (by decide) rfl dX10_isLess_129 (fun M18 => ?_)
              refine qv_iinc (pc := 132) (v := (v9 + (-1))) (lv1 := [(3, .int (v9 + (-1))), (0, .ref (X.2.2.2 + t))]) g dX10_isLess_132 rfl rfl (by decide) rfl ?_
              refine qv_goto (pc := 135) (tgt := 81) g dX10_isLess_135 (by decide) ?_
              refine qv_lv [1, 0] rfl ?_
              exact qr11 _ _
            refine qv_icmp_ne (pc := 104) (tgt := 111) g dX10_isLess_104 (by decide) ?_ ?_
            · refine qv_iload_n (pc := 111) g dX10_isLess_111 rfl rfl ?_
              refine qv_iconst (v := 1) (pc := 112) g dX10_isLess_112 (by decide) ?_
              refine qv_icmp_ne (pc := 113) (tgt := 120) g dX10_isLess_113 (by decide) ?_ ?_
              · refine qv_iconst (v := 1) (pc := 120) g dX10_isLess_120 (by decide) ?_
                exact qk15 _
              · refine qv_iconst (v := 0) (pc := 116) g dX10_isLess_116 (by decide) ?_
                refine qv_goto (pc := 117) (tgt := 121) g dX10_isLess_117 (by decide) ?_
                exact qk15 _
            · refine qv_iconst (v := 2) (pc := 107) g dX10_isLess_107 (by decide) ?_
              refine qv_goto (pc := 108) (tgt := 121) g dX10_isLess_108 (by decide) ?_
              exact qk15 _) _ _ _
    · refine qv_iconst (v := 0) (pc := 69) g dX10_isLess_69 (by decide) ?_
      exact qv_zret (pc := 70) g hr rfl rfl dX10_isLess_70
  refine qv_lv [1, 2, 3, 0] rfl ?_
  exact qv_L2 (Vh := fun (v19 : Int32) (M20 : qv_Mem) o => qv_V G X 4 (qv_QM G X T qv_eIM (0, 0)) T (0, 0) 10 [(0, .ref (X.2.2.2 + t)), (1, .int p1), (2, .int p2), (3, .int v19)] [] M20 o) (fun _ _ => qv_none) (fun r21 qr21 v19 M20 => by
    unfold b_X10_isLess_10
    refine qv_iload_n (pc := 10) g dX10_isLess_10 rfl rfl ?_
    refine qv_if_lt (pc := 11) (tgt := 57) g dX10_isLess_11 (by decide) ?_ ?_
    · refine qv_lv [0, 1, 2] rfl ?_
      exact qk3 _
    · refine qv_aload_n (pc := 14) g dX10_isLess_14 rfl rfl ?_
      refine qv_iconst (v := 4) (pc := 15) g dX10_isLess_15 (by decide) ?_
      refine qv_iload_n (pc := 16) g dX10_isLess_16 rfl rfl ?_
      refine qv_iconst (v := 2) (pc := 17) g dX10_isLess_17 (by decide) ?_
      refine qv_join (fun (k23 : Int32 → Option (Int32 × qv_Mem)) => ∀ (v22 : Int32), qv_V G X 4 (qv_QM G X T qv_eIM (0, 0)) T (0, 0) 35 [(0, .ref (X.2.2.2 + t)), (1, .int p1), (2, .int p2), (3, .int v19)] [.int v22, .int 4, .ref (X.2.2.2 + t)] M20 (k23 v22)) (fun v22 => ?_) (fun k23 qk23 => ?_)
      · refine qv_iadd (pc := 35) g dX10_isLess_35 ?_
        refine qv_bipush (v := 16) (pc := 36) g dX10_isLess_36 (by decide) ?_
        refine qv_aV (qv_cv (pc := 38) g (c_X10_turns (gl G) X (d + 2) T _ _ _ M20 ht) (qv_R hRm (by omega) (by decide)) ⟨Nat.zero_le _, Nat.zero_le _⟩ mw_X10_turns lk_RX10_138 im_X10_turns se_X10_turns (by decide) rfl ht pd_X10_turns rfl (Nat.le_of_ble_eq_true rfl) dX10_isLess_38) (fun M24 => ?_)
        refine qv_aload_n (pc := 41) g dX10_isLess_41 rfl rfl ?_
        refine qv_bipush (v := 15) (pc := 42) g dX10_isLess_42 (by decide) ?_
        refine qv_bipush (v := 16) (pc := 44) g dX10_isLess_44 (by decide) ?_
        refine qv_bipush (v := 15) (pc := 46) g dX10_isLess_46 (by decide) ?_
        refine qv_aV (qv_cv (pc := 48) g (c_X10_product (gl G) X d T _ _ _ _ M24 ht) (qv_R hRm (by omega) (by decide)) ⟨Nat.zero_le _, Nat.zero_le _⟩ mw_X10_product lk_RX10_132 im_X10_product se_X10_product (by decide) rfl ht pd_X10_product rfl (Nat.le_of_ble_eq_true rfl) dX10_isLess_48) (fun M25 => ?_)
        refine qv_iinc (pc := 51) (v := (v19 + (-1))) (lv1 := [(3, .int (v19 + (-1))), (0, .ref (X.2.2.2 + t)), (1, .int p1), (2, .int p2)]) g dX10_isLess_51 rfl rfl (by decide) rfl ?_
        refine qv_goto (pc := 54) (tgt := 10) g dX10_isLess_54 (by decide) ?_
        refine qv_lv [1, 2, 3, 0] rfl ?_
        exact qr21 _ _
      refine qv_icmp_ne (pc := 18) (tgt := 25) g dX10_isLess_18 (by decide) ?_ ?_
      · refine qv_iload_n (pc := 25) g dX10_isLess_25 rfl rfl ?_
        refine qv_iconst (v := 1) (pc := 26) g dX10_isLess_26 (by decide) ?_
        refine qv_icmp_ne (pc := 27) (tgt := 34) g dX10_isLess_27 (by decide) ?_ ?_
        · refine qv_iconst (v := 1) (pc := 34) g dX10_isLess_34 (by decide) ?_
          exact qk23 _
        · refine qv_iconst (v := 0) (pc := 30) g dX10_isLess_30 (by decide) ?_
          refine qv_goto (pc := 31) (tgt := 35) g dX10_isLess_31 (by decide) ?_
          exact qk23 _
      · refine qv_iconst (v := 2) (pc := 21) g dX10_isLess_21 (by decide) ?_
        refine qv_goto (pc := 22) (tgt := 35) g dX10_isLess_22 (by decide) ?_
        exact qk23 _) _ _ _

set_option maxHeartbeats 4000000 in
set_option maxRecDepth 100000 in
theorem c_X10_normal (l : Launch) (X : qv_X) (d : Nat) (T : List qv_Ent) (t : Nat) (p1 : Int32) (p2 : Int32) (M : qv_Mem) {nt : Nat} (ht : qv_is (nt + 1) T 10 29 t) : qv_Ok l X yX10_normal cX10_normal 5 (some .int) (d + 5) T M [.ref (X.2.2.2 + t), .int p1, .int p2] qv_eIM (f_X10_normal T t p1 p2 M) := by
  refine qv_mk (lv := [(0, .ref (X.2.2.2 + t)), (1, .int p1), (2, .int p2)]) (by decide) (Nat.le_of_ble_eq_true rfl) rfl (fun G hG hRm g hr => ?_)
  have g : qv_ok G X cX10_normal RX10 5 := g
  unfold f_X10_normal
  refine qv_iload_n (pc := 0) g dX10_normal_0 rfl rfl ?_
  refine qv_aI rfl (qv_cs (pc := 1) g (c_X10_isWord (gl G) X (d + 3) T _ M) (qv_R hRm (by omega) (by decide)) ⟨Nat.zero_le _, Nat.zero_le _⟩ mw_X10_isWord lk_RX10_187 st_X10_isWord pd_X10_isWord rfl (Nat.le_of_ble_eq_true rfl) dX10_normal_1) (fun v1 => ?_)
  refine qv_if_eq (pc := 4) (tgt := 14) g dX10_normal_4 (by decide) ?_ ?_
  · refine qv_iconst (v := (-1)) (pc := 14) g dX10_normal_14 (by decide) ?_
    exact qv_iret (pc := 15) g hr rfl dX10_normal_15
  · refine qv_iload_n (pc := 7) g dX10_normal_7 rfl rfl ?_
    refine qv_aI rfl (qv_cs (pc := 8) g (c_X10_isRegister (gl G) X (d + 3) T _ M) (qv_R hRm (by omega) (by decide)) ⟨Nat.zero_le _, Nat.zero_le _⟩ mw_X10_isRegister lk_RX10_126 st_X10_isRegister pd_X10_isRegister rfl (Nat.le_of_ble_eq_true rfl) dX10_normal_8) (fun v2 => ?_)
    refine qv_if_ne (pc := 11) (tgt := 16) g dX10_normal_11 (by decide) ?_ ?_
    · refine qv_aload_n (pc := 16) g dX10_normal_16 rfl rfl ?_
      refine qv_iconst (v := 0) (pc := 17) g dX10_normal_17 (by decide) ?_
      refine qv_puti (pc := 18) g pw_RX10_175 ht (by decide) (by decide) rfl dX10_normal_18 (fun M3 => ?_)
      refine qv_aload_n (pc := 21) g dX10_normal_21 rfl rfl ?_
      refine qv_iload_n (pc := 22) g dX10_normal_22 rfl rfl ?_
      refine qv_bipush (v := 18) (pc := 23) g dX10_normal_23 (by decide) ?_
      refine qv_aV (qv_cv (pc := 25) g (c_X10_copies (gl G) X (d + 4) T _ _ _ M3 ht) (qv_R hRm (by omega) (by decide)) ⟨Nat.zero_le _, Nat.zero_le _⟩ mw_X10_copies lk_RX10_83 im_X10_copies se_X10_copies (by decide) rfl ht pd_X10_copies rfl (Nat.le_of_ble_eq_true rfl) dX10_normal_25) (fun M4 => ?_)
      refine qv_aload_n (pc := 28) g dX10_normal_28 rfl rfl ?_
      refine qv_bipush (v := 18) (pc := 29) g dX10_normal_29 (by decide) ?_
      refine qv_aIM (qv_cv (pc := 31) g (c_X10_channels (gl G) X (d + 1) T _ _ M4 ht) (qv_R hRm (by omega) (by decide)) ⟨Nat.zero_le _, Nat.zero_le _⟩ mw_X10_channels lk_RX10_147 im_X10_channels se_X10_channels (by decide) rfl ht pd_X10_channels rfl (Nat.le_of_ble_eq_true rfl) dX10_normal_31) (fun v5 M6 => ?_)
      refine qv_istore_n (pc := 34) (lv1 := [(3, .int v5), (0, .ref (X.2.2.2 + t)), (1, .int p1), (2, .int p2)]) g dX10_normal_34 rfl (by decide) rfl ?_
      refine qv_join (fun (k8 : qv_Mem → Option (Int32 × qv_Mem)) => ∀ (M7 : qv_Mem), qv_V G X 5 (qv_QM G X T qv_eIM (0, 0)) T (0, 0) 88 [(0, .ref (X.2.2.2 + t)), (1, .int p1)] [] M7 (k8 M7)) (fun M7 => ?_) (fun k8 qk8 => ?_)
      · refine qv_aload_n (pc := 88) g dX10_normal_88 rfl rfl ?_
        refine qv_gets (pc := 89) g fw_RX10_175 ht (by decide) (by decide) rfl dX10_normal_89 (fun v9 => ?_)
        refine qv_bipush (v := 60) (pc := 92) g dX10_normal_92 (by decide) ?_
        refine qv_icmp_le (pc := 94) (tgt := 100) g dX10_normal_94 (by decide) ?_ ?_
        · refine qv_aload_n (pc := 100) g dX10_normal_100 rfl rfl ?_
          refine qv_aload_n (pc := 101) g dX10_normal_101 rfl rfl ?_
          refine qv_bipush (v := 18) (pc := 102) g dX10_normal_102 (by decide) ?_
          refine qv_aI rfl (qv_cv (pc := 104) g (c_X10_cliffordOf (gl G) X (d + 4) T _ _ M7 ht) (qv_R hRm (by omega) (by decide)) ⟨Nat.zero_le _, Nat.zero_le _⟩ mw_X10_cliffordOf lk_RX10_160 im_X10_cliffordOf se_X10_cliffordOf (by decide) rfl ht pd_X10_cliffordOf rfl (Nat.le_of_ble_eq_true rfl) dX10_normal_104) (fun v10 => ?_)
          refine qv_aV (qv_cv (pc := 107) g (c_X10_cheapestBehind (gl G) X (d + 2) T _ _ M7 ht) (qv_R hRm (by omega) (by decide)) ⟨Nat.zero_le _, Nat.zero_le _⟩ mw_X10_cheapestBehind lk_RX10_178 im_X10_cheapestBehind se_X10_cheapestBehind (by decide) rfl ht pd_X10_cheapestBehind rfl (Nat.le_of_ble_eq_true rfl) dX10_normal_107) (fun M11 => ?_)
          refine qv_aload_n (pc := 110) g dX10_normal_110 rfl rfl ?_
          refine qv_gets (pc := 111) g fw_RX10_175 ht (by decide) (by decide) rfl dX10_normal_111 (fun v12 => ?_)
          refine qv_bipush (v := 60) (pc := 114) g dX10_normal_114 (by decide) ?_
          refine qv_icmp_le (pc := 116) (tgt := 124) g dX10_normal_116 (by decide) ?_ ?_
          · refine qv_aload_n (pc := 124) g dX10_normal_124 rfl rfl ?_
            refine qv_iload_n (pc := 125) g dX10_normal_125 rfl rfl ?_
            refine qv_aIM (qv_cv (pc := 126) g (c_X10_becomes (gl G) X (d + 3) T _ _ M11 ht) (qv_R hRm (by omega) (by decide)) ⟨Nat.zero_le _, Nat.zero_le _⟩ mw_X10_becomes lk_RX10_193 im_X10_becomes se_X10_becomes (by decide) rfl ht pd_X10_becomes rfl (Nat.le_of_ble_eq_true rfl) dX10_normal_126) (fun v13 M14 => ?_)
            exact qv_iret (pc := 129) g hr rfl dX10_normal_129
          · refine qv_bipush (v := (-3)) (pc := 119) g dX10_normal_119 (by decide) ?_
            refine qv_goto (pc := 121) (tgt := 129) g dX10_normal_121 (by decide) ?_
            exact qv_iret (pc := 129) g hr rfl dX10_normal_129
        · refine qv_bipush (v := (-3)) (pc := 97) g dX10_normal_97 (by decide) ?_
          exact qv_iret (pc := 99) g hr rfl dX10_normal_99
      refine qv_lv [1, 2, 0] rfl ?_
      exact qv_L2 (Vh := fun (v15 : Int32) (M16 : qv_Mem) o => qv_V G X 5 (qv_QM G X T qv_eIM (0, 0)) T (0, 0) 35 [(0, .ref (X.2.2.2 + t)), (1, .int p1), (3, .int v15)] [] M16 o) (fun _ _ => qv_none) (fun r17 qr17 v15 M16 => by
        unfold b_X10_normal_35
        refine qv_iload_n (pc := 35) g dX10_normal_35 rfl rfl ?_
        refine qv_if_le (pc := 36) (tgt := 88) g dX10_normal_36 (by decide) ?_ ?_
        · refine qv_lv [0, 1] rfl ?_
          exact qk8 _
        · refine qv_aload_n (pc := 39) g dX10_normal_39 rfl rfl ?_
          refine qv_gets (pc := 40) g fw_RX10_175 ht (by decide) (by decide) rfl dX10_normal_40 (fun v18 => ?_)
          refine qv_bipush (v := 60) (pc := 43) g dX10_normal_43 (by decide) ?_
          refine qv_icmp_gt (pc := 45) (tgt := 88) g dX10_normal_45 (by decide) ?_ ?_
          · refine qv_lv [0, 1] rfl ?_
            exact qk8 _
          · refine qv_aload_n (pc := 48) g dX10_normal_48 rfl rfl ?_
            refine qv_iconst (v := 0) (pc := 49) g dX10_normal_49 (by decide) ?_
            refine qv_iload_n (pc := 50) g dX10_normal_50 rfl rfl ?_
            refine qv_aIM (qv_cv (pc := 51) g (c_X10_isLess (gl G) X d T _ _ _ M16 ht) (qv_R hRm (by omega) (by decide)) ⟨Nat.zero_le _, Nat.zero_le _⟩ mw_X10_isLess lk_RX10_211 im_X10_isLess se_X10_isLess (by decide) rfl ht pd_X10_isLess rfl (Nat.le_of_ble_eq_true rfl) dX10_normal_51) (fun v19 M20 => ?_)
            refine qv_join (fun (k23 : Int32 → qv_Mem → Option (Int32 × qv_Mem)) => ∀ (v21 : Int32) (M22 : qv_Mem), qv_V G X 5 (qv_QM G X T qv_eIM (0, 0)) T (0, 0) 80 [(0, .ref (X.2.2.2 + t)), (1, .int p1), (3, .int v15)] [.int v21] M22 (k23 v21 M22)) (fun v21 M22 => ?_) (fun k23 qk23 => ?_)
            · refine qv_istore (pc := 80) (lv1 := [(4, .int v21), (0, .ref (X.2.2.2 + t)), (1, .int p1), (3, .int v15)]) g dX10_normal_80 (by decide) rfl ?_
              refine qv_iinc (pc := 82) (v := (v15 + (-1))) (lv1 := [(3, .int (v15 + (-1))), (4, .int v21), (0, .ref (X.2.2.2 + t)), (1, .int p1)]) g dX10_normal_82 rfl rfl (by decide) rfl ?_
              refine qv_goto (pc := 85) (tgt := 35) g dX10_normal_85 (by decide) ?_
              refine qv_lv [2, 3, 0] rfl ?_
              exact qr17 _ _
            refine qv_if_ne (pc := 54) (tgt := 75) g dX10_normal_54 (by decide) ?_ ?_
            · refine qv_iconst (v := 1) (pc := 75) g dX10_normal_75 (by decide) ?_
              refine qv_goto (pc := 76) (tgt := 80) g dX10_normal_76 (by decide) ?_
              exact qk23 _ _
            · refine qv_aload_n (pc := 57) g dX10_normal_57 rfl rfl ?_
              refine qv_iconst (v := 1) (pc := 58) g dX10_normal_58 (by decide) ?_
              refine qv_iload_n (pc := 59) g dX10_normal_59 rfl rfl ?_
              refine qv_aIM (qv_cv (pc := 60) g (c_X10_isLess (gl G) X d T _ _ _ M20 ht) (qv_R hRm (by omega) (by decide)) ⟨Nat.zero_le _, Nat.zero_le _⟩ mw_X10_isLess lk_RX10_211 im_X10_isLess se_X10_isLess (by decide) rfl ht pd_X10_isLess rfl (Nat.le_of_ble_eq_true rfl) dX10_normal_60) (fun v24 M25 => ?_)
              refine qv_if_ne (pc := 63) (tgt := 75) g dX10_normal_63 (by decide) ?_ ?_
              · refine qv_iconst (v := 1) (pc := 75) g dX10_normal_75 (by decide) ?_
                refine qv_goto (pc := 76) (tgt := 80) g dX10_normal_76 (by decide) ?_
                exact qk23 _ _
              · refine qv_aload_n (pc := 66) g dX10_normal_66 rfl rfl ?_
                refine qv_iconst (v := 2) (pc := 67) g dX10_normal_67 (by decide) ?_
                refine qv_iload_n (pc := 68) g dX10_normal_68 rfl rfl ?_
                refine qv_aIM (qv_cv (pc := 69) g (c_X10_isLess (gl G) X d T _ _ _ M25 ht) (qv_R hRm (by omega) (by decide)) ⟨Nat.zero_le _, Nat.zero_le _⟩ mw_X10_isLess lk_RX10_211 im_X10_isLess se_X10_isLess (by decide) rfl ht pd_X10_isLess rfl (Nat.le_of_ble_eq_true rfl) dX10_normal_69) (fun v26 M27 => ?_)
                refine qv_if_eq (pc := 72) (tgt := 79) g dX10_normal_72 (by decide) ?_ ?_
                · refine qv_iconst (v := 0) (pc := 79) g dX10_normal_79 (by decide) ?_
                  exact qk23 _ _
                · refine qv_iconst (v := 1) (pc := 75) g dX10_normal_75 (by decide) ?_
                  refine qv_goto (pc := 76) (tgt := 80) g dX10_normal_76 (by decide) ?_
                  exact qk23 _ _) _ _ _
    · refine qv_iconst (v := (-1)) (pc := 14) g dX10_normal_14 (by decide) ?_
      exact qv_iret (pc := 15) g hr rfl dX10_normal_15

set_option maxHeartbeats 4000000 in
set_option maxRecDepth 100000 in
theorem c_X10_fits (l : Launch) (X : qv_X) (d : Nat) (T : List qv_Ent) (t : Nat) (p1 : Int32) (p2 : Int32) (p3 : Int32) (M : qv_Mem) {nt : Nat} (ht : qv_is (nt + 1) T 10 29 t) : qv_Ok l X yX10_fits cX10_fits 6 (some .int) (d + 5) T M [.ref (X.2.2.2 + t), .int p1, .int p2, .int p3] qv_eIM (f_X10_fits T t p1 p2 p3 M) := by
  refine qv_mk (lv := [(0, .ref (X.2.2.2 + t)), (1, .int p1), (2, .int p2), (3, .int p3)]) (by decide) (Nat.le_of_ble_eq_true rfl) rfl (fun G hG hRm g hr => ?_)
  have g : qv_ok G X cX10_fits RX10 6 := g
  unfold f_X10_fits
  refine qv_iload_n (pc := 0) g dX10_fits_0 rfl rfl ?_
  refine qv_aI rfl (qv_cs (pc := 1) g (c_X10_isWord (gl G) X (d + 3) T _ M) (qv_R hRm (by omega) (by decide)) ⟨Nat.zero_le _, Nat.zero_le _⟩ mw_X10_isWord lk_RX10_187 st_X10_isWord pd_X10_isWord rfl (Nat.le_of_ble_eq_true rfl) dX10_fits_1) (fun v1 => ?_)
  refine qv_if_eq (pc := 4) (tgt := 32) g dX10_fits_4 (by decide) ?_ ?_
  · refine qv_iconst (v := (-1)) (pc := 32) g dX10_fits_32 (by decide) ?_
    exact qv_iret (pc := 33) g hr rfl dX10_fits_33
  · refine qv_iload_n (pc := 7) g dX10_fits_7 rfl rfl ?_
    refine qv_i2l (pc := 8) g dX10_fits_8 ?_
    refine qv_lconst (v := 0) (pc := 9) g dX10_fits_9 (by decide) ?_
    refine qv_aload_n (pc := 10) g dX10_fits_10 rfl rfl ?_
    have h1 : qv_is _ T 20 3 (qv_rf T t 6) := ht.to 6 (by decide) (by decide) rfl
    refine qv_getr (pc := 11) g fw_RX10_31 ht (by decide) (by decide) rfl dX10_fits_11 ?_
    refine qv_iload_n (pc := 14) g dX10_fits_14 rfl rfl ?_
    refine qv_iald (pc := 15) g h1 dX10_fits_15 (fun v2 => ?_)
    refine qv_iconst (v := 1) (pc := 16) g dX10_fits_16 (by decide) ?_
    refine qv_isub (pc := 17) g dX10_fits_17 ?_
    refine qv_i2l (pc := 18) g dX10_fits_18 ?_
    refine qv_aI rfl (qv_cs (pc := 19) g (c_X10_isIn (gl G) X (d + 4) T _ _ _ M) (qv_R hRm (by omega) (by decide)) ⟨Nat.zero_le _, Nat.zero_le _⟩ mw_X10_isIn lk_RX10_120 st_X10_isIn pd_X10_isIn rfl (Nat.le_of_ble_eq_true rfl) dX10_fits_19) (fun v3 => ?_)
    refine qv_if_eq (pc := 22) (tgt := 32) g dX10_fits_22 (by decide) ?_ ?_
    · refine qv_iconst (v := (-1)) (pc := 32) g dX10_fits_32 (by decide) ?_
      exact qv_iret (pc := 33) g hr rfl dX10_fits_33
    · refine qv_iload_n (pc := 25) g dX10_fits_25 rfl rfl ?_
      refine qv_aI rfl (qv_cs (pc := 26) g (c_X10_isRegister (gl G) X (d + 3) T _ M) (qv_R hRm (by omega) (by decide)) ⟨Nat.zero_le _, Nat.zero_le _⟩ mw_X10_isRegister lk_RX10_126 st_X10_isRegister pd_X10_isRegister rfl (Nat.le_of_ble_eq_true rfl) dX10_fits_26) (fun v4 => ?_)
      refine qv_if_ne (pc := 29) (tgt := 34) g dX10_fits_29 (by decide) ?_ ?_
      · refine qv_iconst (v := 0) (pc := 34) g dX10_fits_34 (by decide) ?_
        refine qv_istore (pc := 35) (lv1 := [(4, .int 0), (0, .ref (X.2.2.2 + t)), (1, .int p1), (2, .int p2), (3, .int p3)]) g dX10_fits_35 (by decide) rfl ?_
        refine qv_iconst (v := 0) (pc := 37) g dX10_fits_37 (by decide) ?_
        refine qv_istore (pc := 38) (lv1 := [(5, .int 0), (4, .int 0), (0, .ref (X.2.2.2 + t)), (1, .int p1), (2, .int p2), (3, .int p3)]) g dX10_fits_38 (by decide) rfl ?_
        refine qv_join (fun (k7 : Int32 → qv_Mem → Option (Int32 × qv_Mem)) => ∀ (v5 : Int32) (M6 : qv_Mem), qv_V G X 6 (qv_QM G X T qv_eIM (0, 0)) T (0, 0) 88 [(4, .int v5)] [] M6 (k7 v5 M6)) (fun v5 M6 => ?_) (fun k7 qk7 => ?_)
        · refine qv_iload (pc := 88) g dX10_fits_88 rfl ?_
          exact qv_iret (pc := 90) g hr rfl dX10_fits_90
        refine qv_lv [2, 3, 4, 5, 1, 0] rfl ?_
        exact qv_L3 (Vh := fun (v8 : Int32) (v9 : Int32) (M10 : qv_Mem) o => qv_V G X 6 (qv_QM G X T qv_eIM (0, 0)) T (0, 0) 40 [(0, .ref (X.2.2.2 + t)), (1, .int p1), (2, .int p2), (3, .int p3), (4, .int v8), (5, .int v9)] [] M10 o) (fun _ _ _ => qv_none) (fun r11 qr11 v8 v9 M10 => by
          unfold b_X10_fits_40
          refine qv_iload (pc := 40) g dX10_fits_40 rfl ?_
          refine qv_bipush (v := 7) (pc := 42) g dX10_fits_42 (by decide) ?_
          refine qv_icmp_ge (pc := 44) (tgt := 88) g dX10_fits_44 (by decide) ?_ ?_
          · refine qv_lv [4] rfl ?_
            exact qk7 _ _
          · refine qv_aload_n (pc := 47) g dX10_fits_47 rfl rfl ?_
            refine qv_bipush (v := 15) (pc := 48) g dX10_fits_48 (by decide) ?_
            refine qv_iload_n (pc := 50) g dX10_fits_50 rfl rfl ?_
            refine qv_bipush (v := 60) (pc := 51) g dX10_fits_51 (by decide) ?_
            refine qv_iload_n (pc := 53) g dX10_fits_53 rfl rfl ?_
            refine qv_iload (pc := 54) g dX10_fits_54 rfl ?_
            refine qv_aV (qv_cv (pc := 56) g (c_X10_valueOf (gl G) X d T _ _ _ _ _ _ M10 ht) (qv_R hRm (by omega) (by decide)) ⟨Nat.zero_le _, Nat.zero_le _⟩ mw_X10_valueOf lk_RX10_196 im_X10_valueOf se_X10_valueOf (by decide) rfl ht pd_X10_valueOf rfl (Nat.le_of_ble_eq_true rfl) dX10_fits_56) (fun M12 => ?_)
            refine qv_iload (pc := 59) g dX10_fits_59 rfl ?_
            refine qv_aload_n (pc := 61) g dX10_fits_61 rfl rfl ?_
            refine qv_bipush (v := 15) (pc := 62) g dX10_fits_62 (by decide) ?_
            refine qv_iload_n (pc := 64) g dX10_fits_64 rfl rfl ?_
            refine qv_aI rfl (qv_cv (pc := 65) g (c_X10_areSame (gl G) X (d + 4) T _ _ _ M12 ht) (qv_R hRm (by omega) (by decide)) ⟨Nat.zero_le _, Nat.zero_le _⟩ mw_X10_areSame lk_RX10_143 im_X10_areSame se_X10_areSame (by decide) rfl ht pd_X10_areSame rfl (Nat.le_of_ble_eq_true rfl) dX10_fits_65) (fun v13 => ?_)
            refine qv_join (fun (k15 : Int32 → Option (Int32 × qv_Mem)) => ∀ (v14 : Int32), qv_V G X 6 (qv_QM G X T qv_eIM (0, 0)) T (0, 0) 79 [(0, .ref (X.2.2.2 + t)), (1, .int p1), (2, .int p2), (3, .int p3), (5, .int v9)] [.int v14, .int v8] M12 (k15 v14)) (fun v14 => ?_) (fun k15 qk15 => ?_)
            · refine qv_ior (pc := 79) g dX10_fits_79 ?_
              refine qv_istore (pc := 80) (lv1 := [(4, .int (v8 ||| v14)), (0, .ref (X.2.2.2 + t)), (1, .int p1), (2, .int p2), (3, .int p3), (5, .int v9)]) g dX10_fits_80 (by decide) rfl ?_
              refine qv_iinc (pc := 82) (v := (v9 + 1)) (lv1 := [(5, .int (v9 + 1)), (4, .int (v8 ||| v14)), (0, .ref (X.2.2.2 + t)), (1, .int p1), (2, .int p2), (3, .int p3)]) g dX10_fits_82 rfl rfl (by decide) rfl ?_
              refine qv_goto (pc := 85) (tgt := 40) g dX10_fits_85 (by decide) ?_
              refine qv_lv [2, 3, 4, 5, 1, 0] rfl ?_
              exact qr11 _ _ _
            refine qv_if_eq (pc := 68) (tgt := 78) g dX10_fits_68 (by decide) ?_ ?_
            · refine qv_iconst (v := 0) (pc := 78) g dX10_fits_78 (by decide) ?_
              refine qv_lv [0, 1, 2, 3, 5] rfl ?_
              exact qk15 _
            · refine qv_iconst (v := 1) (pc := 71) g dX10_fits_71 (by decide) ?_
              refine qv_iload (pc := 72) g dX10_fits_72 rfl ?_
              refine qv_ishl (pc := 74) g dX10_fits_74 ?_
              refine qv_goto (pc := 75) (tgt := 79) g dX10_fits_75 (by decide) ?_
              refine qv_lv [0, 1, 2, 3, 5] rfl ?_
              exact qk15 _) _ _ _ _
      · refine qv_iconst (v := (-1)) (pc := 32) g dX10_fits_32 (by decide) ?_
        exact qv_iret (pc := 33) g hr rfl dX10_fits_33

set_option maxHeartbeats 4000000 in
set_option maxRecDepth 100000 in
theorem c_X10_parts (l : Launch) (X : qv_X) (d : Nat) (T : List qv_Ent) (t : Nat) (p1 : Int32) (p2 : Int32) (M : qv_Mem) {nt : Nat} (ht : qv_is (nt + 1) T 10 29 t) : qv_Ok l X yX10_parts cX10_parts 4 (some .int) (d + 5) T M [.ref (X.2.2.2 + t), .int p1, .int p2] qv_eIM (f_X10_parts T t p1 p2 M) := by
  refine qv_mk (lv := [(0, .ref (X.2.2.2 + t)), (1, .int p1), (2, .int p2)]) (by decide) (Nat.le_of_ble_eq_true rfl) rfl (fun G hG hRm g hr => ?_)
  have g : qv_ok G X cX10_parts RX10 4 := g
  unfold f_X10_parts
  refine qv_iload_n (pc := 0) g dX10_parts_0 rfl rfl ?_
  refine qv_aI rfl (qv_cs (pc := 1) g (c_X10_isWord (gl G) X (d + 3) T _ M) (qv_R hRm (by omega) (by decide)) ⟨Nat.zero_le _, Nat.zero_le _⟩ mw_X10_isWord lk_RX10_187 st_X10_isWord pd_X10_isWord rfl (Nat.le_of_ble_eq_true rfl) dX10_parts_1) (fun v1 => ?_)
  refine qv_if_eq (pc := 4) (tgt := 14) g dX10_parts_4 (by decide) ?_ ?_
  · refine qv_iconst (v := (-1)) (pc := 14) g dX10_parts_14 (by decide) ?_
    exact qv_iret (pc := 15) g hr rfl dX10_parts_15
  · refine qv_iload_n (pc := 7) g dX10_parts_7 rfl rfl ?_
    refine qv_aI rfl (qv_cs (pc := 8) g (c_X10_isWord (gl G) X (d + 3) T _ M) (qv_R hRm (by omega) (by decide)) ⟨Nat.zero_le _, Nat.zero_le _⟩ mw_X10_isWord lk_RX10_187 st_X10_isWord pd_X10_isWord rfl (Nat.le_of_ble_eq_true rfl) dX10_parts_8) (fun v2 => ?_)
    refine qv_if_ne (pc := 11) (tgt := 16) g dX10_parts_11 (by decide) ?_ ?_
    · refine qv_iconst (v := 0) (pc := 16) g dX10_parts_16 (by decide) ?_
      refine qv_istore_n (pc := 17) (lv1 := [(3, .int 0), (0, .ref (X.2.2.2 + t)), (1, .int p1), (2, .int p2)]) g dX10_parts_17 rfl (by decide) rfl ?_
      refine qv_lv [1, 2, 3, 0] rfl ?_
      exact qv_L2 (Vh := fun (v3 : Int32) (M4 : qv_Mem) o => qv_V G X 4 (qv_QM G X T qv_eIM (0, 0)) T (0, 0) 18 [(0, .ref (X.2.2.2 + t)), (1, .int p1), (2, .int p2), (3, .int v3)] [] M4 o) (fun _ _ => qv_none) (fun r5 qr5 v3 M4 => by
        unfold b_X10_parts_18
        refine qv_iload_n (pc := 18) g dX10_parts_18 rfl rfl ?_
        refine qv_aload_n (pc := 19) g dX10_parts_19 rfl rfl ?_
        have h1 : qv_is _ T 20 3 (qv_rf T t 6) := ht.to 6 (by decide) (by decide) rfl
        refine qv_getr (pc := 20) g fw_RX10_31 ht (by decide) (by decide) rfl dX10_parts_20 ?_
        refine qv_iload_n (pc := 23) g dX10_parts_23 rfl rfl ?_
        refine qv_iald (pc := 24) g h1 dX10_parts_24 (fun v6 => ?_)
        refine qv_join (fun (k7 : Unit → Option (Int32 × qv_Mem)) => ∀ (_ : Unit), qv_V G X 4 (qv_QM G X T qv_eIM (0, 0)) T (0, 0) 38 [(0, .ref (X.2.2.2 + t)), (1, .int p1), (2, .int p2), (3, .int v3)] [] M4 (k7 ())) (fun _ => ?_) (fun k7 qk7 => ?_)
        · refine qv_aload_n (pc := 38) g dX10_parts_38 rfl rfl ?_
          refine qv_bipush (v := 15) (pc := 39) g dX10_parts_39 (by decide) ?_
          refine qv_iload_n (pc := 41) g dX10_parts_41 rfl rfl ?_
          refine qv_iload_n (pc := 42) g dX10_parts_42 rfl rfl ?_
          refine qv_iconst (v := 1) (pc := 43) g dX10_parts_43 (by decide) ?_
          refine qv_iadd (pc := 44) g dX10_parts_44 ?_
          refine qv_bipush (v := (-2)) (pc := 45) g dX10_parts_45 (by decide) ?_
          refine qv_iconst (v := 0) (pc := 47) g dX10_parts_47 (by decide) ?_
          refine qv_aV (qv_cv (pc := 48) g (c_X10_valueOf (gl G) X d T _ _ _ _ _ _ M4 ht) (qv_R hRm (by omega) (by decide)) ⟨Nat.zero_le _, Nat.zero_le _⟩ mw_X10_valueOf lk_RX10_196 im_X10_valueOf se_X10_valueOf (by decide) rfl ht pd_X10_valueOf rfl (Nat.le_of_ble_eq_true rfl) dX10_parts_48) (fun M8 => ?_)
          refine qv_aload_n (pc := 51) g dX10_parts_51 rfl rfl ?_
          refine qv_bipush (v := 16) (pc := 52) g dX10_parts_52 (by decide) ?_
          refine qv_iload_n (pc := 54) g dX10_parts_54 rfl rfl ?_
          refine qv_iload_n (pc := 55) g dX10_parts_55 rfl rfl ?_
          refine qv_iconst (v := 1) (pc := 56) g dX10_parts_56 (by decide) ?_
          refine qv_iadd (pc := 57) g dX10_parts_57 ?_
          refine qv_bipush (v := (-2)) (pc := 58) g dX10_parts_58 (by decide) ?_
          refine qv_iconst (v := 0) (pc := 60) g dX10_parts_60 (by decide) ?_
          refine qv_aV (qv_cv (pc := 61) g (c_X10_valueOf (gl G) X d T _ _ _ _ _ _ M8 ht) (qv_R hRm (by omega) (by decide)) ⟨Nat.zero_le _, Nat.zero_le _⟩ mw_X10_valueOf lk_RX10_196 im_X10_valueOf se_X10_valueOf (by decide) rfl ht pd_X10_valueOf rfl (Nat.le_of_ble_eq_true rfl) dX10_parts_61) (fun M9 => ?_)
          refine qv_aload_n (pc := 64) g dX10_parts_64 rfl rfl ?_
          refine qv_bipush (v := 15) (pc := 65) g dX10_parts_65 (by decide) ?_
          refine qv_bipush (v := 16) (pc := 67) g dX10_parts_67 (by decide) ?_
          refine qv_aI rfl (qv_cv (pc := 69) g (c_X10_areSame (gl G) X (d + 4) T _ _ _ M9 ht) (qv_R hRm (by omega) (by decide)) ⟨Nat.zero_le _, Nat.zero_le _⟩ mw_X10_areSame lk_RX10_143 im_X10_areSame se_X10_areSame (by decide) rfl ht pd_X10_areSame rfl (Nat.le_of_ble_eq_true rfl) dX10_parts_69) (fun v10 => ?_)
          refine qv_if_ne (pc := 72) (tgt := 77) g dX10_parts_72 (by decide) ?_ ?_
          · refine qv_iinc (pc := 77) (v := (v3 + 1)) (lv1 := [(3, .int (v3 + 1)), (0, .ref (X.2.2.2 + t)), (1, .int p1), (2, .int p2)]) g dX10_parts_77 rfl rfl (by decide) rfl ?_
            refine qv_goto (pc := 80) (tgt := 18) g dX10_parts_80 (by decide) ?_
            refine qv_lv [1, 2, 3, 0] rfl ?_
            exact qr5 _ _
          · refine qv_iload_n (pc := 75) g dX10_parts_75 rfl rfl ?_
            exact qv_iret (pc := 76) g hr rfl dX10_parts_76
        refine qv_icmp_lt (pc := 25) (tgt := 38) g dX10_parts_25 (by decide) ?_ ?_
        · exact qk7 ()
        · refine qv_iload_n (pc := 28) g dX10_parts_28 rfl rfl ?_
          refine qv_aload_n (pc := 29) g dX10_parts_29 rfl rfl ?_
          refine qv_getr (pc := 30) g fw_RX10_31 ht (by decide) (by decide) rfl dX10_parts_30 ?_
          refine qv_iload_n (pc := 33) g dX10_parts_33 rfl rfl ?_
          refine qv_iald (pc := 34) g h1 dX10_parts_34 (fun v11 => ?_)
          refine qv_icmp_ge (pc := 35) (tgt := 83) g dX10_parts_35 (by decide) ?_ ?_
          · refine qv_bipush (v := (-2)) (pc := 83) g dX10_parts_83 (by decide) ?_
            exact qv_iret (pc := 85) g hr rfl dX10_parts_85
          · exact qk7 ()) _ _ _
    · refine qv_iconst (v := (-1)) (pc := 14) g dX10_parts_14 (by decide) ?_
      exact qv_iret (pc := 15) g hr rfl dX10_parts_15

