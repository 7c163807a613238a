theorem mw_X10_begins : qv_mw yX10_begins cX10_begins 1 (some .boolean) := ⟨qv_gin 1203 (by decide +kernel) (by decide +kernel), qv_gin 79 (by decide +kernel) (by decide +kernel), by decide +kernel, by decide +kernel⟩
theorem lk_RX10_241 : Cond.methodLink RX10 241 yX10_begins ∈ qv_gt := qv_gin 1200 (by decide +kernel) (by decide +kernel)
theorem im_X10_begins : Cond.instanceMethod yX10_begins ∈ qv_gt := qv_gin 1202 (by decide +kernel) (by decide +kernel)
theorem se_X10_begins : Cond.selects yX10_begins.cls yX10_begins yX10_begins ∈ qv_gt := qv_gin 62 (by decide +kernel) (by decide +kernel)
theorem pd_X10_begins : (parseMethodDescriptor yX10_begins.desc).map (fun d => d.parameters.length) = some 0 := by decide +kernel
theorem mw_X10_item : qv_mw yX10_item cX10_item 6 (some .boolean) := ⟨qv_gin 1214 (by decide +kernel) (by decide +kernel), qv_gin 79 (by decide +kernel) (by decide +kernel), by decide +kernel, by decide +kernel⟩
theorem lk_RX10_245 : Cond.methodLink RX10 245 yX10_item ∈ qv_gt := qv_gin 1211 (by decide +kernel) (by decide +kernel)
theorem im_X10_item : Cond.instanceMethod yX10_item ∈ qv_gt := qv_gin 1213 (by decide +kernel) (by decide +kernel)
theorem se_X10_item : Cond.selects yX10_item.cls yX10_item yX10_item ∈ qv_gt := qv_gin 64 (by decide +kernel) (by decide +kernel)
theorem pd_X10_item : (parseMethodDescriptor yX10_item.desc).map (fun d => d.parameters.length) = some 0 := by decide +kernel
theorem pw_RX10_231 : qv_pw RX10 231 10 26 false .int := ⟨RX10, TX10, 29, tyX10, rfl, by decide, gl_X10, qv_gin 951 (by decide +kernel) (by decide +kernel), rfl, tyX10_ok, nmX10, rfl, tyX10_ok 26 (by decide)⟩
theorem pw_RX10_221 : qv_pw RX10 221 10 25 false .int := ⟨RX10, TX10, 29, tyX10, rfl, by decide, gl_X10, qv_gin 950 (by decide +kernel) (by decide +kernel), rfl, tyX10_ok, nmX10, rfl, tyX10_ok 25 (by decide)⟩
theorem mw_X10_items : qv_mw yX10_items cX10_items 3 (some .boolean) := ⟨qv_gin 1199 (by decide +kernel) (by decide +kernel), qv_gin 79 (by decide +kernel) (by decide +kernel), by decide +kernel, by decide +kernel⟩
theorem lk_RX10_251 : Cond.methodLink RX10 251 yX10_items ∈ qv_gt := qv_gin 1196 (by decide +kernel) (by decide +kernel)
theorem im_X10_items : Cond.instanceMethod yX10_items ∈ qv_gt := qv_gin 1198 (by decide +kernel) (by decide +kernel)
theorem se_X10_items : Cond.selects yX10_items.cls yX10_items yX10_items ∈ qv_gt := qv_gin 61 (by decide +kernel) (by decide +kernel)
theorem pd_X10_items : (parseMethodDescriptor yX10_items.desc).map (fun d => d.parameters.length) = some 0 := by decide +kernel
theorem kl_RX10_254 : Cond.constantLong RX10 254 48 ∈ qv_gt := qv_gin 1223 (by decide +kernel) (by decide +kernel)
theorem kl_RX10_256 : Cond.constantLong RX10 256 57 ∈ qv_gt := qv_gin 1224 (by decide +kernel) (by decide +kernel)
theorem mw_X10_reverses : qv_mw yX10_reverses cX10_reverses 7 none := ⟨qv_gin 1222 (by decide +kernel) (by decide +kernel), qv_gin 79 (by decide +kernel) (by decide +kernel), by decide +kernel, by decide +kernel⟩
theorem lk_RX10_248 : Cond.methodLink RX10 248 yX10_reverses ∈ qv_gt := qv_gin 1219 (by decide +kernel) (by decide +kernel)
theorem im_X10_reverses : Cond.instanceMethod yX10_reverses ∈ qv_gt := qv_gin 1221 (by decide +kernel) (by decide +kernel)
theorem se_X10_reverses : Cond.selects yX10_reverses.cls yX10_reverses yX10_reverses ∈ qv_gt := qv_gin 66 (by decide +kernel) (by decide +kernel)
theorem pd_X10_reverses : (parseMethodDescriptor yX10_reverses.desc).map (fun d => d.parameters.length) = some 1 := by decide +kernel
noncomputable def b_X10_items_16 (t : Nat) (T : List qv_Ent) (ri : List qv_Ent → Nat → qv_Mem → Option (Int32 × qv_Mem)) (v2 : Int32) (k5 : Int32 → qv_Mem → Option (Int32 × qv_Mem)) : (Int32 → qv_Mem → Option (Int32 × qv_Mem)) → Int32 → qv_Mem → Option (Int32 × qv_Mem) := fun r8 v6 M7 =>
 (if v6 = 0 then
 k5 v6 M7
 else
 qv_bo (f_X10_begins T t M7) (fun v9 =>
 (if v9 = 0 then
 k5 v6 M7
 else
 qv_bp (ri T t M7) (fun v10 M11 =>
 qv_gS t 27 M11 (fun v12 =>
 qv_gS t 18 M11 (fun v13 =>
 qv_jn (fun (v14 : Int32) =>
 qv_pZ t 27 (v12 ||| v14) M11 (fun M16 =>
 r8 v10 M16)) (fun k15 =>
 (if (v13 - v2) ≤ 60 then
 k15 0
 else
 k15 1))))))))
noncomputable def f_X10_items (ri : List qv_Ent → Nat → qv_Mem → Option (Int32 × qv_Mem)) (rs : List qv_Ent → Nat → qv_Mem → Option (Int32 × qv_Mem)) (T : List qv_Ent) (t : Nat) (M : qv_Mem) : Option (Int32 × qv_Mem) :=
 qv_bo (f_X10_begins T t M) (fun v1 =>
 (if v1 = 0 then
 some (0, M)
 else
 qv_gS t 18 M (fun v2 =>
 qv_jn (fun (v3 : Int32) (M4 : qv_Mem) =>
 qv_gd (qv_01 v3) (some (v3, M4))) (fun k5 =>
 qv_lp2 (b_X10_items_16 t T ri v2 k5) qv_N 1 M))))
set_option maxHeartbeats 4000000 in
set_option maxRecDepth 100000 in
theorem c_X10_items (l : Launch) (X : qv_X) (d : Nat) (ri : List qv_Ent → Nat → qv_Mem → Option (Int32 × qv_Mem)) (rs : List qv_Ent → Nat → qv_Mem → Option (Int32 × qv_Mem)) (hri : ∀ (l : Launch) (X : qv_X) (T : List qv_Ent) (t : Nat) (M : qv_Mem) {nt : Nat} (ht : qv_is (nt + 1) T 10 29 t), qv_Ok l X yX10_item cX10_item 6 (some .boolean) (d + 1) T M [.ref (X.2.2.2 + t)] qv_eIM (ri T t M)) (hrs : ∀ (l : Launch) (X : qv_X) (T : List qv_Ent) (t : Nat) (M : qv_Mem) {nt : Nat} (ht : qv_is (nt + 1) T 10 29 t), qv_Ok l X yX10_items cX10_items 3 (some .boolean) (d + 1) T M [.ref (X.2.2.2 + t)] qv_eIM (rs T t M)) (T : List qv_Ent) (t : Nat) (M : qv_Mem) {nt : Nat} (ht : qv_is (nt + 1) T 10 29 t) : qv_Ok l X yX10_items cX10_items 3 (some .boolean) (d + 2) T M [.ref (X.2.2.2 + t)] qv_eIM (f_X10_items ri rs T t M) := by
  refine qv_mk (lv := [(0, .ref (X.2.2.2 + t))]) (by decide) (Nat.le_of_ble_eq_true rfl) rfl (fun G hG hRm g hr => ?_)
  have g : qv_ok G X cX10_items RX10 3 := g
  unfold f_X10_items
  refine qv_aload_n (pc := 0) g dX10_items_0 rfl rfl ?_
  refine qv_aI rfl (qv_cv (pc := 1) g (c_X10_begins (gl G) X d T _ M ht) (qv_R hRm (by omega) (by decide)) ⟨Nat.zero_le _, Nat.zero_le _⟩ mw_X10_begins lk_RX10_241 im_X10_begins se_X10_begins (by decide) rfl ht pd_X10_begins rfl (Nat.le_of_ble_eq_true rfl) dX10_items_1) (fun v1 => ?_)
  refine qv_if_ne (pc := 4) (tgt := 9) g dX10_items_4 (by decide) ?_ ?_
  · refine qv_iconst (v := 1) (pc := 9) g dX10_items_9 (by decide) ?_
    refine qv_istore_n (pc := 10) (lv1 := [(1, .int 1), (0, .ref (X.2.2.2 + t))]) g dX10_items_10 rfl (by decide) rfl ?_
    refine qv_aload_n (pc := 11) g dX10_items_11 rfl rfl ?_
    refine qv_gets (pc := 12) g fw_RX10_175 ht (by decide) (by decide) rfl dX10_items_12 (fun v2 => ?_)
    refine qv_istore_n (pc := 15) (lv1 := [(2, .int v2), (1, .int 1), (0, .ref (X.2.2.2 + t))]) g dX10_items_15 rfl (by decide) rfl ?_
    refine qv_join (fun (k5 : Int32 → qv_Mem → Option (Int32 × qv_Mem)) => ∀ (v3 : Int32) (M4 : qv_Mem), qv_V G X 3 (qv_QM G X T qv_eIM (0, 0)) T (0, 0) 60 [(1, .int v3)] [] M4 (k5 v3 M4)) (fun v3 M4 => ?_) (fun k5 qk5 => ?_)
    · refine qv_iload_n (pc := 60) g dX10_items_60 rfl rfl ?_
      exact qv_zretg (pc := 61) g hr rfl dX10_items_61
    refine qv_lv [2, 1, 0] rfl ?_
    exact qv_L2 (Vh := fun (v6 : Int32) (M7 : qv_Mem) o => qv_V G X 3 (qv_QM G X T qv_eIM (0, 0)) T (0, 0) 16 [(0, .ref (X.2.2.2 + t)), (1, .int v6), (2, .int v2)] [] M7 o) (fun _ _ => qv_none) (fun r8 qr8 v6 M7 => by
      unfold b_X10_items_16
      refine qv_iload_n (pc := 16) g dX10_items_16 rfl rfl ?_
      refine qv_if_eq (pc := 17) (tgt := 60) g dX10_items_17 (by decide) ?_ ?_
      · refine qv_lv [1] rfl ?_
        exact qk5 _ _
      · refine qv_aload_n (pc := 20) g dX10_items_20 rfl rfl ?_
        refine qv_aI rfl (qv_cv (pc := 21) g (c_X10_begins (gl G) X d T _ M7 ht) (qv_R hRm (by omega) (by decide)) ⟨Nat.zero_le _, Nat.zero_le _⟩ mw_X10_begins lk_RX10_241 im_X10_begins se_X10_begins (by decide) rfl ht pd_X10_begins rfl (Nat.le_of_ble_eq_true rfl) dX10_items_21) (fun v9 => ?_)
        refine qv_if_eq (pc := 24) (tgt := 60) g dX10_items_24 (by decide) ?_ ?_
        · refine qv_lv [1] rfl ?_
          exact qk5 _ _
        · refine qv_aload_n (pc := 27) g dX10_items_27 rfl rfl ?_
          refine qv_aIM (qv_cv (pc := 28) g (hri (gl G) X T _ M7 ht) (qv_R hRm (by omega) (by decide)) ⟨Nat.zero_le _, Nat.zero_le _⟩ mw_X10_item lk_RX10_245 im_X10_item se_X10_item (by decide) rfl ht pd_X10_item rfl (Nat.le_of_ble_eq_true rfl) dX10_items_28) (fun v10 M11 => ?_)
          refine qv_istore_n (pc := 31) (lv1 := [(1, .int v10), (0, .ref (X.2.2.2 + t)), (2, .int v2)]) g dX10_items_31 rfl (by decide) rfl ?_
          refine qv_aload_n (pc := 32) g dX10_items_32 rfl rfl ?_
          refine qv_dup (pc := 33) g dX10_items_33 rfl ?_
          refine qv_gets (pc := 34) g fw_RX10_234 ht (by decide) (by decide) rfl dX10_items_34 (fun v12 => ?_)
          refine qv_aload_n (pc := 37) g dX10_items_37 rfl rfl ?_
          refine qv_gets (pc := 38) g fw_RX10_175 ht (by decide) (by decide) rfl dX10_items_38 (fun v13 => ?_)
          refine qv_iload_n (pc := 41) g dX10_items_41 rfl rfl ?_
          refine qv_isub (pc := 42) g dX10_items_42 ?_
          refine qv_bipush (v := 60) (pc := 43) g dX10_items_43 (by decide) ?_
          refine qv_join (fun (k15 : Int32 → Option (Int32 × qv_Mem)) => ∀ (v14 : Int32), qv_V G X 3 (qv_QM G X T qv_eIM (0, 0)) T (0, 0) 53 [(0, .ref (X.2.2.2 + t)), (1, .int v10), (2, .int v2)] [.int v14, .int v12, .ref (X.2.2.2 + t)] M11 (k15 v14)) (fun v14 => ?_) (fun k15 qk15 => ?_)
          · refine qv_ior (pc := 53) g dX10_items_53 ?_
            refine qv_putz (pc := 54) g pw_RX10_234 ht (by decide) (by decide) rfl dX10_items_54 (fun M16 => ?_)
            refine qv_goto (pc := 57) (tgt := 16) g dX10_items_57 (by decide) ?_
            exact qr8 _ _
          refine qv_icmp_le (pc := 45) (tgt := 52) g dX10_items_45 (by decide) ?_ ?_
          · refine qv_iconst (v := 0) (pc := 52) g dX10_items_52 (by decide) ?_
            refine qv_lv [1, 0, 2] rfl ?_
            exact qk15 _
          · refine qv_iconst (v := 1) (pc := 48) g dX10_items_48 (by decide) ?_
            refine qv_goto (pc := 49) (tgt := 53) g dX10_items_49 (by decide) ?_
            refine qv_lv [1, 0, 2] rfl ?_
            exact qk15 _) _ _ _
  · refine qv_iconst (v := 0) (pc := 7) g dX10_items_7 (by decide) ?_
    exact qv_zret (pc := 8) g hr rfl rfl dX10_items_8

noncomputable def b_X10_item_224 (t : Nat) (T : List qv_Ent) (v3 : Int32) (v18 : Int32) (v21 : Int32) (k30 : qv_Mem → Option (Int32 × qv_Mem)) : (Int32 → qv_Mem → Option (Int32 × qv_Mem)) → Int32 → qv_Mem → Option (Int32 × qv_Mem) := fun r33 v31 M32 =>
 (if ((v21 - v3) * v18) ≤ v31 then
 k30 M32
 else
 qv_gS t 27 M32 (fun v34 =>
 (if v34 = 0 then
 qv_ldI 600 (qv_rf T t 17) ((v3 + v31) - (v21 - v3)) M32 (fun v35 =>
 qv_bo (f_X10_puts T t v35 M32) (fun M36 =>
 r33 (v31 + 1) M36))
 else
 k30 M32)))
noncomputable def f_X10_item (ri : List qv_Ent → Nat → qv_Mem → Option (Int32 × qv_Mem)) (rs : List qv_Ent → Nat → qv_Mem → Option (Int32 × qv_Mem)) (T : List qv_Ent) (t : Nat) (M : qv_Mem) : Option (Int32 × qv_Mem) :=
 qv_bo (f_X10_here T t M) (fun v1 =>
 qv_bo (f_X10_gateBy v1) (fun v2 =>
 (if v2 = (-2) then
 qv_gS t 18 M (fun v3 =>
 qv_bo (f_X10_here T t M) (fun v4 =>
 (if v4 = 126 then
 qv_gS t 25 M (fun v41 =>
 qv_pS t 25 (v41 + 1) M (fun M42 =>
 qv_bo (f_X10_begins T t M42) (fun v43 =>
 (if v43 = 0 then
 some (0, M42)
 else
 qv_bp (ri T t M42) (fun v44 M45 =>
 (if v44 = 0 then
 some (0, M45)
 else
 qv_bo (f_X10_reverses T t v3 M45) (fun M46 =>
 some (1, M46))))))))
 else
 qv_gS t 26 M (fun v5 =>
 qv_pS t 26 (v5 + 1) M (fun M6 =>
 qv_gS t 25 M6 (fun v7 =>
 qv_pS t 25 (v7 + 1) M6 (fun M8 =>
 qv_bp (rs T t M8) (fun v9 M10 =>
 (if v9 = 0 then
 some (0, M10)
 else
 qv_bo (f_X10_here T t M10) (fun v11 =>
 (if v11 = 41 then
 qv_gS t 26 M10 (fun v12 =>
 qv_pS t 26 (v12 - 1) M10 (fun M13 =>
 qv_gS t 25 M13 (fun v14 =>
 qv_pS t 25 (v14 + 1) M13 (fun M15 =>
 qv_bo (f_X10_here T t M15) (fun v16 =>
 qv_bo (f_X10_isIn v16.toInt64 48 57) (fun v17 =>
 qv_jn (fun (v18 : Int32) (M19 : qv_Mem) =>
 qv_gS t 18 M19 (fun v21 =>
 qv_gS t 27 M19 (fun v22 =>
 qv_jn (fun (v23 : Int32) =>
 qv_pZ t 27 (v22 ||| v23) M19 (fun M25 =>
 qv_jn (fun (v26 : Int32) =>
 qv_pS t 18 v26 M25 (fun M28 =>
 qv_jn (fun (M29 : qv_Mem) =>
 some (1, M29)) (fun k30 =>
 qv_lp2 (b_X10_item_224 t T v3 v18 v21 k30) qv_N (v21 - v3) M28))) (fun k27 =>
 (if v18 = 0 then
 k27 v3
 else
 qv_gS t 18 M25 (fun v37 =>
 k27 v37))))) (fun k24 =>
 (if ((v21 - v3) * v18) ≤ 60 then
 k24 0
 else
 k24 1))))) (fun k20 =>
 (if v17 = 0 then
 k20 1 M15
 else
 qv_bo (f_X10_here T t M15) (fun v38 =>
 qv_gS t 25 M15 (fun v39 =>
 qv_pS t 25 (v39 + 1) M15 (fun M40 =>
 k20 (v38 - 48) M40)))))))))))
 else
 some (0, M10))))))))))))
 else
 qv_gS t 25 M (fun v47 =>
 qv_pS t 25 (v47 + 1) M (fun M48 =>
 qv_bo (f_X10_puts T t v2 M48) (fun M49 =>
 some (1, M49)))))))
set_option maxHeartbeats 4000000 in
set_option maxRecDepth 100000 in
theorem c_X10_item (l : Launch) (X : qv_X) (d : Nat) (ri : List qv_Ent → Nat → qv_Mem → Option (Int32 × qv_Mem)) (rs : List qv_Ent → Nat → qv_Mem → Option (Int32 × qv_Mem)) (hri : ∀ (l : Launch) (X : qv_X) (T : List qv_Ent) (t : Nat) (M : qv_Mem) {nt : Nat} (ht : qv_is (nt + 1) T 10 29 t), qv_Ok l X yX10_item cX10_item 6 (some .boolean) (d + 1) T M [.ref (X.2.2.2 + t)] qv_eIM (ri T t M)) (hrs : ∀ (l : Launch) (X : qv_X) (T : List qv_Ent) (t : Nat) (M : qv_Mem) {nt : Nat} (ht : qv_is (nt + 1) T 10 29 t), qv_Ok l X yX10_items cX10_items 3 (some .boolean) (d + 1) T M [.ref (X.2.2.2 + t)] qv_eIM (rs T t M)) (T : List qv_Ent) (t : Nat) (M : qv_Mem) {nt : Nat} (ht : qv_is (nt + 1) T 10 29 t) : qv_Ok l X yX10_item cX10_item 6 (some .boolean) (d + 2) T M [.ref (X.2.2.2 + t)] qv_eIM (f_X10_item ri rs T t M) := by
  refine qv_mk (lv := [(0, .ref (X.2.2.2 + t))]) (by decide) (Nat.le_of_ble_eq_true rfl) rfl (fun G hG hRm g hr => ?_)
  have g : qv_ok G X cX10_item RX10 6 := g
  unfold f_X10_item
  refine qv_aload_n (pc := 0) g dX10_item_0 rfl rfl ?_
  refine qv_aI rfl (qv_cv (pc := 1) g (c_X10_here (gl G) X (d + 1) T _ M ht) (qv_R hRm (by omega) (by decide)) ⟨Nat.zero_le _, Nat.zero_le _⟩ mw_X10_here lk_RX10_224 im_X10_here se_X10_here (by decide) rfl ht pd_X10_here rfl (Nat.le_of_ble_eq_true rfl) dX10_item_1) (fun v1 => ?_)
  refine qv_aI rfl (qv_cs (pc := 4) g (c_X10_gateBy (gl G) X (d + 1) T _ M) (qv_R hRm (by omega) (by decide)) ⟨Nat.zero_le _, Nat.zero_le _⟩ mw_X10_gateBy lk_RX10_228 st_X10_gateBy pd_X10_gateBy rfl (Nat.le_of_ble_eq_true rfl) dX10_item_4) (fun v2 => ?_)
  refine qv_istore_n (pc := 7) (lv1 := [(1, .int v2), (0, .ref (X.2.2.2 + t))]) g dX10_item_7 rfl (by decide) rfl ?_
  refine qv_iload_n (pc := 8) g dX10_item_8 rfl rfl ?_
  refine qv_bipush (v := (-2)) (pc := 9) g dX10_item_9 (by decide) ?_
  refine qv_icmp_eq (pc := 11) (tgt := 31) g dX10_item_11 (by decide) ?_ ?_
  · refine qv_aload_n (pc := 31) g dX10_item_31 rfl rfl ?_
    refine qv_gets (pc := 32) g fw_RX10_175 ht (by decide) (by decide) rfl dX10_item_32 (fun v3 => ?_)
    refine qv_istore_n (pc := 35) (lv1 := [(2, .int v3), (1, .int v2), (0, .ref (X.2.2.2 + t))]) g dX10_item_35 rfl (by decide) rfl ?_
    refine qv_aload_n (pc := 36) g dX10_item_36 rfl rfl ?_
    refine qv_aI rfl (qv_cv (pc := 37) g (c_X10_here (gl G) X (d + 1) T _ M ht) (qv_R hRm (by omega) (by decide)) ⟨Nat.zero_le _, Nat.zero_le _⟩ mw_X10_here lk_RX10_224 im_X10_here se_X10_here (by decide) rfl ht pd_X10_here rfl (Nat.le_of_ble_eq_true rfl) dX10_item_37) (fun v4 => ?_)
    refine qv_bipush (v := 126) (pc := 40) g dX10_item_40 (by decide) ?_
    refine qv_icmp_ne (pc := 42) (tgt := 78) g dX10_item_42 (by decide) ?_ ?_
    · refine qv_aload_n (pc := 78) g dX10_item_78 rfl rfl ?_
      refine qv_dup (pc := 79) g dX10_item_79 rfl ?_
      refine qv_gets (pc := 80) g fw_RX10_231 ht (by decide) (by decide) rfl dX10_item_80 (fun v5 => ?_)
      refine qv_iconst (v := 1) (pc := 83) g dX10_item_83 (by decide) ?_
      refine qv_iadd (pc := 84) g dX10_item_84 ?_
      refine qv_puti (pc := 85) g pw_RX10_231 ht (by decide) (by decide) rfl dX10_item_85 (fun M6 => ?_)
      refine qv_aload_n (pc := 88) g dX10_item_88 rfl rfl ?_
      refine qv_dup (pc := 89) g dX10_item_89 rfl ?_
      refine qv_gets (pc := 90) g fw_RX10_221 ht (by decide) (by decide) rfl dX10_item_90 (fun v7 => ?_)
      refine qv_iconst (v := 1) (pc := 93) g dX10_item_93 (by decide) ?_
      refine qv_iadd (pc := 94) g dX10_item_94 ?_
      refine qv_puti (pc := 95) g pw_RX10_221 ht (by decide) (by decide) rfl dX10_item_95 (fun M8 => ?_)
      refine qv_aload_n (pc := 98) g dX10_item_98 rfl rfl ?_
      refine qv_aIM (qv_cv (pc := 99) g (hrs (gl G) X T _ M8 ht) (qv_R hRm (by omega) (by decide)) ⟨Nat.zero_le _, Nat.zero_le _⟩ mw_X10_items lk_RX10_251 im_X10_items se_X10_items (by decide) rfl ht pd_X10_items rfl (Nat.le_of_ble_eq_true rfl) dX10_item_99) (fun v9 M10 => ?_)
      refine qv_if_eq (pc := 102) (tgt := 114) g dX10_item_102 (by decide) ?_ ?_
      · refine qv_iconst (v := 0) (pc := 114) g dX10_item_114 (by decide) ?_
        exact qv_zret (pc := 115) g hr rfl rfl dX10_item_115
      · refine qv_aload_n (pc := 105) g dX10_item_105 rfl rfl ?_
        refine qv_aI rfl (qv_cv (pc := 106) g (c_X10_here (gl G) X (d + 1) T _ M10 ht) (qv_R hRm (by omega) (by decide)) ⟨Nat.zero_le _, Nat.zero_le _⟩ mw_X10_here lk_RX10_224 im_X10_here se_X10_here (by decide) rfl ht pd_X10_here rfl (Nat.le_of_ble_eq_true rfl) dX10_item_106) (fun v11 => ?_)
        refine qv_bipush (v := 41) (pc := 109) g dX10_item_109 (by decide) ?_
        refine qv_icmp_eq (pc := 111) (tgt := 116) g dX10_item_111 (by decide) ?_ ?_
        · refine qv_aload_n (pc := 116) g dX10_item_116 rfl rfl ?_
          refine qv_dup (pc := 117) g dX10_item_117 rfl ?_
          refine qv_gets (pc := 118) g fw_RX10_231 ht (by decide) (by decide) rfl dX10_item_118 (fun v12 => ?_)
          refine qv_iconst (v := 1) (pc := 121) g dX10_item_121 (by decide) ?_
          refine qv_isub (pc := 122) g dX10_item_122 ?_
          refine qv_puti (pc := 123) g pw_RX10_231 ht (by decide) (by decide) rfl dX10_item_123 (fun M13 => ?_)
          refine qv_aload_n (pc := 126) g dX10_item_126 rfl rfl ?_
          refine qv_dup (pc := 127) g dX10_item_127 rfl ?_
          refine qv_gets (pc := 128) g fw_RX10_221 ht (by decide) (by decide) rfl dX10_item_128 (fun v14 => ?_)
          refine qv_iconst (v := 1) (pc := 131) g dX10_item_131 (by decide) ?_
          refine qv_iadd (pc := 132) g dX10_item_132 ?_
          refine qv_puti (pc := 133) g pw_RX10_221 ht (by decide) (by decide) rfl dX10_item_133 (fun M15 => ?_)
          refine qv_iconst (v := 1) (pc := 136) g dX10_item_136 (by decide) ?_
          refine qv_istore_n (pc := 137) (lv1 := [(3, .int 1), (2, .int v3), (1, .int v2), (0, .ref (X.2.2.2 + t))]) g dX10_item_137 rfl (by decide) rfl ?_
          refine qv_aload_n (pc := 138) g dX10_item_138 rfl rfl ?_
          refine qv_aI rfl (qv_cv (pc := 139) g (c_X10_here (gl G) X (d + 1) T _ M15 ht) (qv_R hRm (by omega) (by decide)) ⟨Nat.zero_le _, Nat.zero_le _⟩ mw_X10_here lk_RX10_224 im_X10_here se_X10_here (by decide) rfl ht pd_X10_here rfl (Nat.le_of_ble_eq_true rfl) dX10_item_139) (fun v16 => ?_)
          refine qv_i2l (pc := 142) g dX10_item_142 ?_
          refine qv_ldc2 (pc := 143) g kl_RX10_254 dX10_item_143 ?_
          refine qv_ldc2 (pc := 146) g kl_RX10_256 dX10_item_146 ?_
          refine qv_aI rfl (qv_cs (pc := 149) g (c_X10_isIn (gl G) X (d + 1) T _ _ _ M15) (qv_R hRm (by omega) (by decide)) ⟨Nat.zero_le _, Nat.zero_le _⟩ mw_X10_isIn lk_RX10_120 st_X10_isIn pd_X10_isIn rfl (Nat.le_of_ble_eq_true rfl) dX10_item_149) (fun v17 => ?_)
          refine qv_join (fun (k20 : Int32 → qv_Mem → Option (Int32 × qv_Mem)) => ∀ (v18 : Int32) (M19 : qv_Mem), qv_V G X 6 (qv_QM G X T qv_eIM (0, 0)) T (0, 0) 173 [(0, .ref (X.2.2.2 + t)), (2, .int v3), (3, .int v18)] [] M19 (k20 v18 M19)) (fun v18 M19 => ?_) (fun k20 qk20 => ?_)
          · refine qv_aload_n (pc := 173) g dX10_item_173 rfl rfl ?_
            refine qv_gets (pc := 174) g fw_RX10_175 ht (by decide) (by decide) rfl dX10_item_174 (fun v21 => ?_)
            refine qv_iload_n (pc := 177) g dX10_item_177 rfl rfl ?_
            refine qv_isub (pc := 178) g dX10_item_178 ?_
            refine qv_istore (pc := 179) (lv1 := [(4, .int (v21 - v3)), (0, .ref (X.2.2.2 + t)), (2, .int v3), (3, .int v18)]) g dX10_item_179 (by decide) rfl ?_
            refine qv_aload_n (pc := 181) g dX10_item_181 rfl rfl ?_
            refine qv_dup (pc := 182) g dX10_item_182 rfl ?_
            refine qv_gets (pc := 183) g fw_RX10_234 ht (by decide) (by decide) rfl dX10_item_183 (fun v22 => ?_)
            refine qv_iload (pc := 186) g dX10_item_186 rfl ?_
            refine qv_iload_n (pc := 188) g dX10_item_188 rfl rfl ?_
            refine qv_imul (pc := 189) g dX10_item_189 ?_
            refine qv_bipush (v := 60) (pc := 190) g dX10_item_190 (by decide) ?_
            refine qv_join (fun (k24 : Int32 → Option (Int32 × qv_Mem)) => ∀ (v23 : Int32), qv_V G X 6 (qv_QM G X T qv_eIM (0, 0)) T (0, 0) 200 [(0, .ref (X.2.2.2 + t)), (2, .int v3), (3, .int v18), (4, .int (v21 - v3))] [.int v23, .int v22, .ref (X.2.2.2 + t)] M19 (k24 v23)) (fun v23 => ?_) (fun k24 qk24 => ?_)
            · refine qv_ior (pc := 200) g dX10_item_200 ?_
              refine qv_putz (pc := 201) g pw_RX10_234 ht (by decide) (by decide) rfl dX10_item_201 (fun M25 => ?_)
              refine qv_aload_n (pc := 204) g dX10_item_204 rfl rfl ?_
              refine qv_iload_n (pc := 205) g dX10_item_205 rfl rfl ?_
              refine qv_join (fun (k27 : Int32 → Option (Int32 × qv_Mem)) => ∀ (v26 : Int32), qv_V G X 6 (qv_QM G X T qv_eIM (0, 0)) T (0, 0) 217 [(0, .ref (X.2.2.2 + t)), (2, .int v3), (3, .int v18), (4, .int (v21 - v3))] [.int v26, .ref (X.2.2.2 + t)] M25 (k27 v26)) (fun v26 => ?_) (fun k27 qk27 => ?_)
              · refine qv_puti (pc := 217) g pw_RX10_175 ht (by decide) (by decide) rfl dX10_item_217 (fun M28 => ?_)
                refine qv_iload (pc := 220) g dX10_item_220 rfl ?_
                refine qv_istore (pc := 222) (lv1 := [(5, .int (v21 - v3)), (0, .ref (X.2.2.2 + t)), (2, .int v3), (3, .int v18), (4, .int (v21 - v3))]) g dX10_item_222 (by decide) rfl ?_
                refine qv_join (fun (k30 : qv_Mem → Option (Int32 × qv_Mem)) => ∀ (M29 : qv_Mem), qv_V G X 6 (qv_QM G X T qv_eIM (0, 0)) T (0, 0) 262 [] [] M29 (k30 M29)) (fun M29 => ?_) (fun k30 qk30 => ?_)
                · refine qv_iconst (v := 1) (pc := 262) g dX10_item_262 (by decide) ?_
                  exact qv_zret (pc := 263) g hr rfl rfl dX10_item_263
                refine qv_lv [1, 2, 3, 4, 0] rfl ?_
                exact qv_L2 (Vh := fun (v31 : Int32) (M32 : qv_Mem) o => qv_V G X 6 (qv_QM G X T qv_eIM (0, 0)) T (0, 0) 224 [(0, .ref (X.2.2.2 + t)), (2, .int v3), (3, .int v18), (4, .int (v21 - v3)), (5, .int v31)] [] M32 o) (fun _ _ => qv_none) (fun r33 qr33 v31 M32 => by
                  unfold b_X10_item_224
                  refine qv_iload (pc := 224) g dX10_item_224 rfl ?_
                  refine qv_iload (pc := 226) g dX10_item_226 rfl ?_
                  refine qv_iload_n (pc := 228) g dX10_item_228 rfl rfl ?_
                  refine qv_imul (pc := 229) g dX10_item_229 ?_
                  refine qv_icmp_ge (pc := 230) (tgt := 262) g dX10_item_230 (by decide) ?_ ?_
                  · refine qv_lv [] rfl ?_
                    exact qk30 _
                  · refine qv_aload_n (pc := 233) g dX10_item_233 rfl rfl ?_
                    refine qv_gets (pc := 234) g fw_RX10_234 ht (by decide) (by decide) rfl dX10_item_234 (fun v34 => ?_)
                    refine qv_if_ne (pc := 237) (tgt := 262) g dX10_item_237 (by decide) ?_ ?_
                    · refine qv_lv [] rfl ?_
                      exact qk30 _
                    · refine qv_aload_n (pc := 240) g dX10_item_240 rfl rfl ?_
                      refine qv_aload_n (pc := 241) g dX10_item_241 rfl rfl ?_
                      have h1 : qv_is _ T 20 600 (qv_rf T t 17) := ht.to 17 (by decide) (by decide) rfl
                      refine qv_getr (pc := 242) g fw_RX10_58 ht (by decide) (by decide) rfl dX10_item_242 ?_
                      refine qv_iload_n (pc := 245) g dX10_item_245 rfl rfl ?_
                      refine qv_iload (pc := 246) g dX10_item_246 rfl ?_
                      refine qv_iadd (pc := 248) g dX10_item_248 ?_
                      refine qv_iload (pc := 249) g dX10_item_249 rfl ?_
                      refine qv_isub (pc := 251) g dX10_item_251 ?_
                      refine qv_iald (pc := 252) g h1 dX10_item_252 (fun v35 => ?_)
                      refine qv_aV (qv_cv (pc := 253) g (c_X10_puts (gl G) X (d + 1) T _ _ M32 ht) (qv_R hRm (by omega) (by decide)) ⟨Nat.zero_le _, Nat.zero_le _⟩ mw_X10_puts lk_RX10_238 im_X10_puts se_X10_puts (by decide) rfl ht pd_X10_puts rfl (Nat.le_of_ble_eq_true rfl) dX10_item_253) (fun M36 => ?_)
                      refine qv_iinc (pc := 256) (v := (v31 + 1)) (lv1 := [(5, .int (v31 + 1)), (0, .ref (X.2.2.2 + t)), (2, .int v3), (3, .int v18), (4, .int (v21 - v3))]) g dX10_item_256 rfl rfl (by decide) rfl ?_
                      refine qv_goto (pc := 259) (tgt := 224) g dX10_item_259 (by decide) ?_
                      refine qv_lv [1, 2, 3, 4, 0] rfl ?_
                      exact qr33 _ _) _ _ _
              refine qv_if_ne (pc := 206) (tgt := 213) g dX10_item_206 (by decide) ?_ ?_
              · refine qv_aload_n (pc := 213) g dX10_item_213 rfl rfl ?_
                refine qv_gets (pc := 214) g fw_RX10_175 ht (by decide) (by decide) rfl dX10_item_214 (fun v37 => ?_)
                exact qk27 _
              · refine qv_iload_n (pc := 209) g dX10_item_209 rfl rfl ?_
                refine qv_goto (pc := 210) (tgt := 217) g dX10_item_210 (by decide) ?_
                exact qk27 _
            refine qv_icmp_le (pc := 192) (tgt := 199) g dX10_item_192 (by decide) ?_ ?_
            · refine qv_iconst (v := 0) (pc := 199) g dX10_item_199 (by decide) ?_
              refine qv_lv [1, 2, 3, 0] rfl ?_
              exact qk24 _
            · refine qv_iconst (v := 1) (pc := 195) g dX10_item_195 (by decide) ?_
              refine qv_goto (pc := 196) (tgt := 200) g dX10_item_196 (by decide) ?_
              refine qv_lv [1, 2, 3, 0] rfl ?_
              exact qk24 _
          refine qv_if_eq (pc := 152) (tgt := 173) g dX10_item_152 (by decide) ?_ ?_
          · refine qv_lv [3, 1, 0] rfl ?_
            exact qk20 _ _
          · refine qv_aload_n (pc := 155) g dX10_item_155 rfl rfl ?_
            refine qv_aI rfl (qv_cv (pc := 156) g (c_X10_here (gl G) X (d + 1) T _ M15 ht) (qv_R hRm (by omega) (by decide)) ⟨Nat.zero_le _, Nat.zero_le _⟩ mw_X10_here lk_RX10_224 im_X10_here se_X10_here (by decide) rfl ht pd_X10_here rfl (Nat.le_of_ble_eq_true rfl) dX10_item_156) (fun v38 => ?_)
            refine qv_bipush (v := 48) (pc := 159) g dX10_item_159 (by decide) ?_
            refine qv_isub (pc := 161) g dX10_item_161 ?_
            refine qv_istore_n (pc := 162) (lv1 := [(3, .int (v38 - 48)), (2, .int v3), (1, .int v2), (0, .ref (X.2.2.2 + t))]) g dX10_item_162 rfl (by decide) rfl ?_
            refine qv_aload_n (pc := 163) g dX10_item_163 rfl rfl ?_
            refine qv_dup (pc := 164) g dX10_item_164 rfl ?_
            refine qv_gets (pc := 165) g fw_RX10_221 ht (by decide) (by decide) rfl dX10_item_165 (fun v39 => ?_)
            refine qv_iconst (v := 1) (pc := 168) g dX10_item_168 (by decide) ?_
            refine qv_iadd (pc := 169) g dX10_item_169 ?_
            refine qv_puti (pc := 170) g pw_RX10_221 ht (by decide) (by decide) rfl dX10_item_170 (fun M40 => ?_)
            refine qv_lv [3, 1, 0] rfl ?_
            exact qk20 _ _
        · refine qv_iconst (v := 0) (pc := 114) g dX10_item_114 (by decide) ?_
          exact qv_zret (pc := 115) g hr rfl rfl dX10_item_115
    · refine qv_aload_n (pc := 45) g dX10_item_45 rfl rfl ?_
      refine qv_dup (pc := 46) g dX10_item_46 rfl ?_
      refine qv_gets (pc := 47) g fw_RX10_221 ht (by decide) (by decide) rfl dX10_item_47 (fun v41 => ?_)
      refine qv_iconst (v := 1) (pc := 50) g dX10_item_50 (by decide) ?_
      refine qv_iadd (pc := 51) g dX10_item_51 ?_
      refine qv_puti (pc := 52) g pw_RX10_221 ht (by decide) (by decide) rfl dX10_item_52 (fun M42 => ?_)
      refine qv_aload_n (pc := 55) g dX10_item_55 rfl rfl ?_
      refine qv_aI rfl (qv_cv (pc := 56) g (c_X10_begins (gl G) X d T _ M42 ht) (qv_R hRm (by omega) (by decide)) ⟨Nat.zero_le _, Nat.zero_le _⟩ mw_X10_begins lk_RX10_241 im_X10_begins se_X10_begins (by decide) rfl ht pd_X10_begins rfl (Nat.le_of_ble_eq_true rfl) dX10_item_56) (fun v43 => ?_)
      refine qv_if_eq (pc := 59) (tgt := 69) g dX10_item_59 (by decide) ?_ ?_
      · refine qv_iconst (v := 0) (pc := 69) g dX10_item_69 (by decide) ?_
        exact qv_zret (pc := 70) g hr rfl rfl dX10_item_70
      · refine qv_aload_n (pc := 62) g dX10_item_62 rfl rfl ?_
        refine qv_aIM (qv_cv (pc := 63) g (hri (gl G) X T _ M42 ht) (qv_R hRm (by omega) (by decide)) ⟨Nat.zero_le _, Nat.zero_le _⟩ mw_X10_item lk_RX10_245 im_X10_item se_X10_item (by decide) rfl ht pd_X10_item rfl (Nat.le_of_ble_eq_true rfl) dX10_item_63) (fun v44 M45 => ?_)
        refine qv_if_ne (pc := 66) (tgt := 71) g dX10_item_66 (by decide) ?_ ?_
        · refine qv_aload_n (pc := 71) g dX10_item_71 rfl rfl ?_
          refine qv_iload_n (pc := 72) g dX10_item_72 rfl rfl ?_
          refine qv_aV (qv_cv (pc := 73) g (c_X10_reverses (gl G) X d T _ _ M45 ht) (qv_R hRm (by omega) (by decide)) ⟨Nat.zero_le _, Nat.zero_le _⟩ mw_X10_reverses lk_RX10_248 im_X10_reverses se_X10_reverses (by decide) rfl ht pd_X10_reverses rfl (Nat.le_of_ble_eq_true rfl) dX10_item_73) (fun M46 => ?_)
          refine qv_iconst (v := 1) (pc := 76) g dX10_item_76 (by decide) ?_
          exact qv_zret (pc := 77) g hr rfl rfl dX10_item_77
        · refine qv_iconst (v := 0) (pc := 69) g dX10_item_69 (by decide) ?_
          exact qv_zret (pc := 70) g hr rfl rfl dX10_item_70
  · refine qv_aload_n (pc := 14) g dX10_item_14 rfl rfl ?_
    refine qv_dup (pc := 15) g dX10_item_15 rfl ?_
    refine qv_gets (pc := 16) g fw_RX10_221 ht (by decide) (by decide) rfl dX10_item_16 (fun v47 => ?_)
    refine qv_iconst (v := 1) (pc := 19) g dX10_item_19 (by decide) ?_
    refine qv_iadd (pc := 20) g dX10_item_20 ?_
    refine qv_puti (pc := 21) g pw_RX10_221 ht (by decide) (by decide) rfl dX10_item_21 (fun M48 => ?_)
    refine qv_aload_n (pc := 24) g dX10_item_24 rfl rfl ?_
    refine qv_iload_n (pc := 25) g dX10_item_25 rfl rfl ?_
    refine qv_aV (qv_cv (pc := 26) g (c_X10_puts (gl G) X (d + 1) T _ _ M48 ht) (qv_R hRm (by omega) (by decide)) ⟨Nat.zero_le _, Nat.zero_le _⟩ mw_X10_puts lk_RX10_238 im_X10_puts se_X10_puts (by decide) rfl ht pd_X10_puts rfl (Nat.le_of_ble_eq_true rfl) dX10_item_26) (fun M49 => ?_)
    refine qv_iconst (v := 1) (pc := 29) g dX10_item_29 (by decide) ?_
    exact qv_zret (pc := 30) g hr rfl rfl dX10_item_30

noncomputable def f_it : Nat → (List qv_Ent → Nat → qv_Mem → Option (Int32 × qv_Mem)) × (List qv_Ent → Nat → qv_Mem → Option (Int32 × qv_Mem))
  | 0 => (fun _ _ _ => none, fun _ _ _ => none)
  | n + 1 => (f_X10_item (f_it n).1 (f_it n).2, f_X10_items (f_it n).1 (f_it n).2)
theorem c_it (n : Nat) : (∀ (l : Launch) (X : qv_X) (T : List qv_Ent) (t : Nat) (M : qv_Mem) {nt : Nat} (ht : qv_is (nt + 1) T 10 29 t), qv_Ok l X yX10_item cX10_item 6 (some .boolean) (n + 1) T M [.ref (X.2.2.2 + t)] qv_eIM ((f_it n).1 T t M)) ∧ (∀ (l : Launch) (X : qv_X) (T : List qv_Ent) (t : Nat) (M : qv_Mem) {nt : Nat} (ht : qv_is (nt + 1) T 10 29 t), qv_Ok l X yX10_items cX10_items 3 (some .boolean) (n + 1) T M [.ref (X.2.2.2 + t)] qv_eIM ((f_it n).2 T t M)) := by
  induction n with
  | zero => exact ⟨fun l X T t M nt ht a ha => (by cases ha), fun l X T t M nt ht a ha => (by cases ha)⟩
  | succ n ih =>
    have e : n + 1 + 1 = n + 2 := by omega
    rw [e]
    exact ⟨fun l X T t M nt ht => c_X10_item l X n _ _ ih.1 ih.2 T t M ht, fun l X T t M nt ht => c_X10_items l X n _ _ ih.1 ih.2 T t M ht⟩
noncomputable def f_X10_itemsC (T : List qv_Ent) (t : Nat) (M : qv_Mem) : Option (Int32 × qv_Mem) := (f_it 200).2 T t M
theorem c_itd (d : Nat) (n : Nat) : (∀ (l : Launch) (X : qv_X) (T : List qv_Ent) (t : Nat) (M : qv_Mem) {nt : Nat} (ht : qv_is (nt + 1) T 10 29 t), qv_Ok l X yX10_item cX10_item 6 (some .boolean) (d + n + 1) T M [.ref (X.2.2.2 + t)] qv_eIM ((f_it n).1 T t M)) ∧ (∀ (l : Launch) (X : qv_X) (T : List qv_Ent) (t : Nat) (M : qv_Mem) {nt : Nat} (ht : qv_is (nt + 1) T 10 29 t), qv_Ok l X yX10_items cX10_items 3 (some .boolean) (d + n + 1) T M [.ref (X.2.2.2 + t)] qv_eIM ((f_it n).2 T t M)) := by
  induction n with
  | zero => exact ⟨fun l X T t M nt ht a ha => (by cases ha), fun l X T t M nt ht a ha => (by cases ha)⟩
  | succ n ih =>
    have e : d + (n + 1) + 1 = d + n + 2 := by omega
    rw [e]
    exact ⟨fun l X T t M nt ht => c_X10_item l X (d + n) _ _ ih.1 ih.2 T t M ht, fun l X T t M nt ht => c_X10_items l X (d + n) _ _ ih.1 ih.2 T t M ht⟩
theorem c_X10_itemsC (l : Launch) (X : qv_X) (d : Nat) (T : List qv_Ent) (t : Nat) (M : qv_Mem) {nt : Nat} (ht : qv_is (nt + 1) T 10 29 t) : qv_Ok l X yX10_items cX10_items 3 (some .boolean) (d + 201) T M [.ref (X.2.2.2 + t)] qv_eIM (f_X10_itemsC T t M) := (c_itd d 200).2 l X T t M ht
noncomputable def f_X10_write (T : List qv_Ent) (t : Nat) (p1 : Int32) (M : qv_Mem) : Option (Int32 × qv_Mem) :=
 qv_bo (f_X10_isWord p1) (fun v1 =>
 (if v1 = 0 then
 some ((-1), M)
 else
 qv_pS t 25 0 M (fun M2 =>
 qv_pS t 26 0 M2 (fun M3 =>
 qv_pS t 18 0 M3 (fun M4 =>
 qv_pZ t 27 0 M4 (fun M5 =>
 qv_bp (f_X10_itemsC T t M5) (fun v6 M7 =>
 qv_jn (fun (v8 : Int32) =>
 qv_pS t 24 0 M7 (fun M10 =>
 (if v8 = 0 then
 qv_gS t 25 M10 (fun v14 =>
 some (((-100) - v14), M10))
 else
 qv_gS t 27 M10 (fun v11 =>
 (if v11 = 0 then
 qv_bp (f_X10_becomes T t p1 M10) (fun v12 M13 =>
 some (v12, M13))
 else
 some ((-3), M10)))))) (fun k9 =>
 (if v6 = 0 then
 k9 0
 else
 qv_gS t 25 M7 (fun v15 =>
 qv_gS t 24 M7 (fun v16 =>
 (if v15 = v16 then
 k9 1
 else
 k9 0))))))))))))
set_option maxHeartbeats 4000000 in
set_option maxRecDepth 100000 in
theorem c_X10_write (l : Launch) (X : qv_X) (d : Nat) (T : List qv_Ent) (t : Nat) (p1 : Int32) (M : qv_Mem) {nt : Nat} (ht : qv_is (nt + 1) T 10 29 t) : qv_Ok l X yX10_write cX10_write 3 (some .int) (d + 202) T M [.ref (X.2.2.2 + t), .int p1] qv_eIM (f_X10_write T t p1 M) := by
  refine qv_mk (lv := [(0, .ref (X.2.2.2 + t)), (1, .int p1)]) (by decide) (Nat.le_of_ble_eq_true rfl) rfl (fun G hG hRm g hr => ?_)
  have g : qv_ok G X cX10_write RX10 3 := g
  unfold f_X10_write
  refine qv_iload_n (pc := 0) g dX10_write_0 rfl rfl ?_
  refine qv_aI rfl (qv_cs (pc := 1) g (c_X10_isWord (gl G) X (d + 200) T _ M) (qv_R hRm (by omega) (by decide)) ⟨Nat.zero_le _, Nat.zero_le _⟩ mw_X10_isWord lk_RX10_187 st_X10_isWord pd_X10_isWord rfl (Nat.le_of_ble_eq_true rfl) dX10_write_1) (fun v1 => ?_)
  refine qv_if_ne (pc := 4) (tgt := 9) g dX10_write_4 (by decide) ?_ ?_
  · refine qv_aload_n (pc := 9) g dX10_write_9 rfl rfl ?_
    refine qv_iconst (v := 0) (pc := 10) g dX10_write_10 (by decide) ?_
    refine qv_puti (pc := 11) g pw_RX10_221 ht (by decide) (by decide) rfl dX10_write_11 (fun M2 => ?_)
    refine qv_aload_n (pc := 14) g dX10_write_14 rfl rfl ?_
    refine qv_iconst (v := 0) (pc := 15) g dX10_write_15 (by decide) ?_
    refine qv_puti (pc := 16) g pw_RX10_231 ht (by decide) (by decide) rfl dX10_write_16 (fun M3 => ?_)
    refine qv_aload_n (pc := 19) g dX10_write_19 rfl rfl ?_
    refine qv_iconst (v := 0) (pc := 20) g dX10_write_20 (by decide) ?_
    refine qv_puti (pc := 21) g pw_RX10_175 ht (by decide) (by decide) rfl dX10_write_21 (fun M4 => ?_)
    refine qv_aload_n (pc := 24) g dX10_write_24 rfl rfl ?_
    refine qv_iconst (v := 0) (pc := 25) g dX10_write_25 (by decide) ?_
    refine qv_putz (pc := 26) g pw_RX10_234 ht (by decide) (by decide) rfl dX10_write_26 (fun M5 => ?_)
    refine qv_aload_n (pc := 29) g dX10_write_29 rfl rfl ?_
    refine qv_aIM (qv_cv (pc := 30) g (c_X10_itemsC (gl G) X d T _ M5 ht) (qv_R hRm (by omega) (by decide)) ⟨Nat.zero_le _, Nat.zero_le _⟩ mw_X10_items lk_RX10_251 im_X10_items se_X10_items (by decide) rfl ht pd_X10_items rfl (Nat.le_of_ble_eq_true rfl) dX10_write_30) (fun v6 M7 => ?_)
    refine qv_join (fun (k9 : Int32 → Option (Int32 × qv_Mem)) => ∀ (v8 : Int32), qv_V G X 3 (qv_QM G X T qv_eIM (0, 0)) T (0, 0) 52 [(0, .ref (X.2.2.2 + t)), (1, .int p1)] [.int v8] M7 (k9 v8)) (fun v8 => ?_) (fun k9 qk9 => ?_)
    · refine qv_istore_n (pc := 52) (lv1 := [(2, .int v8), (0, .ref (X.2.2.2 + t)), (1, .int p1)]) g dX10_write_52 rfl (by decide) rfl ?_
      refine qv_aload_n (pc := 53) g dX10_write_53 rfl rfl ?_
      refine qv_iconst (v := 0) (pc := 54) g dX10_write_54 (by decide) ?_
      refine qv_puti (pc := 55) g pw_RX10_218 ht (by decide) (by decide) rfl dX10_write_55 (fun M10 => ?_)
      refine qv_iload_n (pc := 58) g dX10_write_58 rfl rfl ?_
      refine qv_if_ne (pc := 59) (tgt := 70) g dX10_write_59 (by decide) ?_ ?_
      · refine qv_aload_n (pc := 70) g dX10_write_70 rfl rfl ?_
        refine qv_gets (pc := 71) g fw_RX10_234 ht (by decide) (by decide) rfl dX10_write_71 (fun v11 => ?_)
        refine qv_if_eq (pc := 74) (tgt := 82) g dX10_write_74 (by decide) ?_ ?_
        · refine qv_aload_n (pc := 82) g dX10_write_82 rfl rfl ?_
          refine qv_iload_n (pc := 83) g dX10_write_83 rfl rfl ?_
          refine qv_aIM (qv_cv (pc := 84) g (c_X10_becomes (gl G) X (d + 200) T _ _ M10 ht) (qv_R hRm (by omega) (by decide)) ⟨Nat.zero_le _, Nat.zero_le _⟩ mw_X10_becomes lk_RX10_193 im_X10_becomes se_X10_becomes (by decide) rfl ht pd_X10_becomes rfl (Nat.le_of_ble_eq_true rfl) dX10_write_84) (fun v12 M13 => ?_)
          exact qv_iret (pc := 87) g hr rfl dX10_write_87
        · refine qv_bipush (v := (-3)) (pc := 77) g dX10_write_77 (by decide) ?_
          refine qv_goto (pc := 79) (tgt := 87) g dX10_write_79 (by decide) ?_
          exact qv_iret (pc := 87) g hr rfl dX10_write_87
      · refine qv_bipush (v := (-100)) (pc := 62) g dX10_write_62 (by decide) ?_
        refine qv_aload_n (pc := 64) g dX10_write_64 rfl rfl ?_
        refine qv_gets (pc := 65) g fw_RX10_221 ht (by decide) (by decide) rfl dX10_write_65 (fun v14 => ?_)
        refine qv_isub (pc := 68) g dX10_write_68 ?_
        exact qv_iret (pc := 69) g hr rfl dX10_write_69
    refine qv_if_eq (pc := 33) (tgt := 51) g dX10_write_33 (by decide) ?_ ?_
    · refine qv_iconst (v := 0) (pc := 51) g dX10_write_51 (by decide) ?_
      exact qk9 _
    · refine qv_aload_n (pc := 36) g dX10_write_36 rfl rfl ?_
      refine qv_gets (pc := 37) g fw_RX10_221 ht (by decide) (by decide) rfl dX10_write_37 (fun v15 => ?_)
      refine qv_aload_n (pc := 40) g dX10_write_40 rfl rfl ?_
      refine qv_gets (pc := 41) g fw_RX10_218 ht (by decide) (by decide) rfl dX10_write_41 (fun v16 => ?_)
      refine qv_icmp_ne (pc := 44) (tgt := 51) g dX10_write_44 (by decide) ?_ ?_
      · refine qv_iconst (v := 0) (pc := 51) g dX10_write_51 (by decide) ?_
        exact qk9 _
      · refine qv_iconst (v := 1) (pc := 47) g dX10_write_47 (by decide) ?_
        refine qv_goto (pc := 48) (tgt := 52) g dX10_write_48 (by decide) ?_
        exact qk9 _
  · refine qv_iconst (v := (-1)) (pc := 7) g dX10_write_7 (by decide) ?_
    exact qv_iret (pc := 8) g hr rfl dX10_write_8

