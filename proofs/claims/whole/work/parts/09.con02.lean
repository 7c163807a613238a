set_option maxHeartbeats 4000000 in
set_option maxRecDepth 100000 in
theorem c_X2_lengthOf (l : Launch) (X : qv_X) (d : Nat) (T : List qv_Ent) (t : Nat) (p1 : Int32) (M : qv_Mem) {nt : Nat} (ht : qv_is (nt + 2) T 2 10 t) : qv_Ok l X yX2_lengthOf cX2_lengthOf 2 (some .int) (d) T M [.ref (X.2.2.2 + t), .int p1] (qv_eI M) (f_X2_lengthOf T t p1 M) := by
  refine qv_mk (lv := [(0, .ref (X.2.2.2 + t)), (1, .int p1)]) (by decide) (Nat.le_of_ble_eq_true rfl) rfl (fun G hG hRm g hr => ?_)
  have g : qv_ok G X cX2_lengthOf RX2 2 := g
  unfold f_X2_lengthOf
  refine qv_aload_n (pc := 0) g dX2_lengthOf_0 rfl rfl ?_
  have h1 : qv_is _ T 20 192 (qv_rf T t 5) := ht.to 5 (by decide) (by decide) rfl
  refine qv_getr (pc := 1) g fw_RX2_27 ht (by decide) (by decide) rfl dX2_lengthOf_1 ?_
  refine qv_iload_n (pc := 4) g dX2_lengthOf_4 rfl rfl ?_
  refine qv_iald (pc := 5) g h1 dX2_lengthOf_5 (fun v1 => ?_)
  refine qv_sipush (v := 1024) (pc := 6) g dX2_lengthOf_6 (by decide) ?_
  refine qv_irem (pc := 9) g dX2_lengthOf_9 (by decide) ?_
  exact qv_iret (pc := 10) g hr rfl dX2_lengthOf_10

set_option maxHeartbeats 4000000 in
set_option maxRecDepth 100000 in
theorem c_X2_firstGateOf (l : Launch) (X : qv_X) (d : Nat) (T : List qv_Ent) (t : Nat) (p1 : Int32) (M : qv_Mem) {nt : Nat} (ht : qv_is (nt + 2) T 2 10 t) : qv_Ok l X yX2_firstGateOf cX2_firstGateOf 6 (some .int) (d + 1) T M [.ref (X.2.2.2 + t), .int p1] (qv_eI M) (f_X2_firstGateOf T t p1 M) := by
  refine qv_mk (lv := [(0, .ref (X.2.2.2 + t)), (1, .int p1)]) (by decide) (Nat.le_of_ble_eq_true rfl) rfl (fun G hG hRm g hr => ?_)
  have g : qv_ok G X cX2_firstGateOf RX2 6 := g
  unfold f_X2_firstGateOf
  refine qv_gst (pc := 0) g fs_RX2_63 dX2_firstGateOf_0 ?_
  refine qv_astore_n (pc := 3) (lv1 := [(2, .ref X.2.2.1), (0, .ref (X.2.2.2 + t)), (1, .int p1)]) g dX2_firstGateOf_3 rfl (by decide) rfl ?_
  refine qv_aload_n (pc := 4) g dX2_firstGateOf_4 rfl rfl ?_
  refine qv_plen (pc := 5) g dX2_firstGateOf_5 ?_
  refine qv_istore_n (pc := 6) (lv1 := [(3, .int 5), (2, .ref X.2.2.1), (0, .ref (X.2.2.2 + t)), (1, .int p1)]) g dX2_firstGateOf_6 rfl (by decide) rfl ?_
  refine qv_iconst (v := 0) (pc := 7) g dX2_firstGateOf_7 (by decide) ?_
  refine qv_istore (pc := 8) (lv1 := [(4, .int 0), (3, .int 5), (2, .ref X.2.2.1), (0, .ref (X.2.2.2 + t)), (1, .int p1)]) g dX2_firstGateOf_8 (by decide) rfl ?_
  refine qv_join (fun (k1 : Unit → Option Int32) => ∀ (_ : Unit), qv_V G X 6 (qv_QM G X T (qv_eI M) (0, 0)) T (0, 0) 64 [] [] M (k1 ())) (fun _ => ?_) (fun k1 qk1 => ?_)
  · refine qv_bipush (v := (-2)) (pc := 64) g dX2_firstGateOf_64 (by decide) ?_
    exact qv_iret (pc := 66) g hr rfl dX2_firstGateOf_66
  refine qv_lv [3, 4, 2, 1, 0] rfl ?_
  exact qv_L1 (Vh := fun (v2 : Int32) o => qv_V G X 6 (qv_QM G X T (qv_eI M) (0, 0)) T (0, 0) 10 [(0, .ref (X.2.2.2 + t)), (1, .int p1), (2, .ref X.2.2.1), (3, .int 5), (4, .int v2)] [] M o) (fun _ => qv_none) (fun r3 qr3 v2 => by
    unfold b_X2_firstGateOf_10
    refine qv_iload (pc := 10) g dX2_firstGateOf_10 rfl ?_
    refine qv_iload_n (pc := 12) g dX2_firstGateOf_12 rfl rfl ?_
    refine qv_icmp_ge (pc := 13) (tgt := 64) g dX2_firstGateOf_13 (by decide) ?_ ?_
    · refine qv_lv [] rfl ?_
      exact qk1 ()
    · refine qv_aload_n (pc := 16) g dX2_firstGateOf_16 rfl rfl ?_
      refine qv_iload (pc := 17) g dX2_firstGateOf_17 rfl ?_
      refine qv_pald (pc := 19) g dX2_firstGateOf_19 (fun v4 => ?_)
      refine qv_istore (pc := 20) (lv1 := [(5, .int v4), (0, .ref (X.2.2.2 + t)), (1, .int p1), (2, .ref X.2.2.1), (3, .int 5), (4, .int v2)]) g dX2_firstGateOf_20 (by decide) rfl ?_
      refine qv_aload_n (pc := 22) g dX2_firstGateOf_22 rfl rfl ?_
      have h1 : qv_is _ T 20 192 (qv_rf T t 5) := ht.to 5 (by decide) (by decide) rfl
      refine qv_getr (pc := 23) g fw_RX2_27 ht (by decide) (by decide) rfl dX2_firstGateOf_23 ?_
      refine qv_aload_n (pc := 26) g dX2_firstGateOf_26 rfl rfl ?_
      have h2 : qv_is _ T 20 1344 (qv_rf T t 2) := ht.to 2 (by decide) (by decide) rfl
      refine qv_getr (pc := 27) g fw_RX2_18 ht (by decide) (by decide) rfl dX2_firstGateOf_27 ?_
      refine qv_iload_n (pc := 30) g dX2_firstGateOf_30 rfl rfl ?_
      refine qv_bipush (v := 7) (pc := 31) g dX2_firstGateOf_31 (by decide) ?_
      refine qv_imul (pc := 33) g dX2_firstGateOf_33 ?_
      refine qv_iload (pc := 34) g dX2_firstGateOf_34 rfl ?_
      refine qv_iadd (pc := 36) g dX2_firstGateOf_36 ?_
      refine qv_iald (pc := 37) g h2 dX2_firstGateOf_37 (fun v5 => ?_)
      refine qv_iald (pc := 38) g h1 dX2_firstGateOf_38 (fun v6 => ?_)
      refine qv_aload_n (pc := 39) g dX2_firstGateOf_39 rfl rfl ?_
      refine qv_iload (pc := 40) g dX2_firstGateOf_40 rfl ?_
      refine qv_aI rfl (qv_cv (pc := 42) g (c_X2_weightOf (gl G) X d T _ _ M ht) (qv_R hRm (by omega) (by decide)) ⟨Nat.zero_le _, Nat.zero_le _⟩ mw_X2_weightOf lk_RX2_113 im_X2_weightOf se_X2_weightOf (by decide) rfl ht pd_X2_weightOf rfl (Nat.le_of_ble_eq_true rfl) dX2_firstGateOf_42) (fun v7 => ?_)
      refine qv_iadd (pc := 45) g dX2_firstGateOf_45 ?_
      refine qv_aload_n (pc := 46) g dX2_firstGateOf_46 rfl rfl ?_
      refine qv_getr (pc := 47) g fw_RX2_27 ht (by decide) (by decide) rfl dX2_firstGateOf_47 ?_
      refine qv_iload_n (pc := 50) g dX2_firstGateOf_50 rfl rfl ?_
      refine qv_iald (pc := 51) g h1 dX2_firstGateOf_51 (fun v8 => ?_)
      refine qv_icmp_ne (pc := 52) (tgt := 58) g dX2_firstGateOf_52 (by decide) ?_ ?_
      · refine qv_iinc (pc := 58) (v := (v2 + 1)) (lv1 := [(4, .int (v2 + 1)), (5, .int v4), (0, .ref (X.2.2.2 + t)), (1, .int p1), (2, .ref X.2.2.1), (3, .int 5)]) g dX2_firstGateOf_58 rfl rfl (by decide) rfl ?_
        refine qv_goto (pc := 61) (tgt := 10) g dX2_firstGateOf_61 (by decide) ?_
        refine qv_lv [2, 3, 4, 5, 0] rfl ?_
        exact qr3 _
      · refine qv_iload (pc := 55) g dX2_firstGateOf_55 rfl ?_
        exact qv_iret (pc := 57) g hr rfl dX2_firstGateOf_57) _ _

set_option maxHeartbeats 4000000 in
set_option maxRecDepth 100000 in
theorem c_X2_restOf (l : Launch) (X : qv_X) (d : Nat) (T : List qv_Ent) (t : Nat) (p1 : Int32) (M : qv_Mem) {nt : Nat} (ht : qv_is (nt + 2) T 2 10 t) : qv_Ok l X yX2_restOf cX2_restOf 3 (some .int) (d + 2) T M [.ref (X.2.2.2 + t), .int p1] (qv_eI M) (f_X2_restOf T t p1 M) := by
  refine qv_mk (lv := [(0, .ref (X.2.2.2 + t)), (1, .int p1)]) (by decide) (Nat.le_of_ble_eq_true rfl) rfl (fun G hG hRm g hr => ?_)
  have g : qv_ok G X cX2_restOf RX2 3 := g
  unfold f_X2_restOf
  refine qv_aload_n (pc := 0) g dX2_restOf_0 rfl rfl ?_
  refine qv_iload_n (pc := 1) g dX2_restOf_1 rfl rfl ?_
  refine qv_aI rfl (qv_cv (pc := 2) g (c_X2_firstGateOf (gl G) X d T _ _ M ht) (qv_R hRm (by omega) (by decide)) ⟨Nat.zero_le _, Nat.zero_le _⟩ mw_X2_firstGateOf lk_RX2_122 im_X2_firstGateOf se_X2_firstGateOf (by decide) rfl ht pd_X2_firstGateOf rfl (Nat.le_of_ble_eq_true rfl) dX2_restOf_2) (fun v1 => ?_)
  refine qv_istore_n (pc := 5) (lv1 := [(2, .int v1), (0, .ref (X.2.2.2 + t)), (1, .int p1)]) g dX2_restOf_5 rfl (by decide) rfl ?_
  refine qv_iload_n (pc := 6) g dX2_restOf_6 rfl rfl ?_
  refine qv_if_ge (pc := 7) (tgt := 14) g dX2_restOf_7 (by decide) ?_ ?_
  · refine qv_aload_n (pc := 14) g dX2_restOf_14 rfl rfl ?_
    have h1 : qv_is _ T 20 1344 (qv_rf T t 2) := ht.to 2 (by decide) (by decide) rfl
    refine qv_getr (pc := 15) g fw_RX2_18 ht (by decide) (by decide) rfl dX2_restOf_15 ?_
    refine qv_iload_n (pc := 18) g dX2_restOf_18 rfl rfl ?_
    refine qv_bipush (v := 7) (pc := 19) g dX2_restOf_19 (by decide) ?_
    refine qv_imul (pc := 21) g dX2_restOf_21 ?_
    refine qv_iload_n (pc := 22) g dX2_restOf_22 rfl rfl ?_
    refine qv_iadd (pc := 23) g dX2_restOf_23 ?_
    refine qv_iald (pc := 24) g h1 dX2_restOf_24 (fun v2 => ?_)
    exact qv_iret (pc := 25) g hr rfl dX2_restOf_25
  · refine qv_iload_n (pc := 10) g dX2_restOf_10 rfl rfl ?_
    refine qv_goto (pc := 11) (tgt := 25) g dX2_restOf_11 (by decide) ?_
    exact qv_iret (pc := 25) g hr rfl dX2_restOf_25

set_option maxHeartbeats 4000000 in
set_option maxRecDepth 100000 in
theorem c_X2_gateOf (l : Launch) (X : qv_X) (d : Nat) (T : List qv_Ent) (t : Nat) (p1 : Int32) (p2 : Int32) (M : qv_Mem) {nt : Nat} (ht : qv_is (nt + 2) T 2 10 t) : qv_Ok l X yX2_gateOf cX2_gateOf 5 (some .int) (d + 3) T M [.ref (X.2.2.2 + t), .int p1, .int p2] (qv_eI M) (f_X2_gateOf T t p1 p2 M) := by
  refine qv_mk (lv := [(0, .ref (X.2.2.2 + t)), (1, .int p1), (2, .int p2)]) (by decide) (Nat.le_of_ble_eq_true rfl) rfl (fun G hG hRm g hr => ?_)
  have g : qv_ok G X cX2_gateOf RX2 5 := g
  unfold f_X2_gateOf
  refine qv_iload_n (pc := 0) g dX2_gateOf_0 rfl rfl ?_
  refine qv_aload_n (pc := 1) g dX2_gateOf_1 rfl rfl ?_
  refine qv_iload_n (pc := 2) g dX2_gateOf_2 rfl rfl ?_
  refine qv_aI rfl (qv_cv (pc := 3) g (c_X2_lengthOf (gl G) X (d + 2) T _ _ M ht) (qv_R hRm (by omega) (by decide)) ⟨Nat.zero_le _, Nat.zero_le _⟩ mw_X2_lengthOf lk_RX2_116 im_X2_lengthOf se_X2_lengthOf (by decide) rfl ht pd_X2_lengthOf rfl (Nat.le_of_ble_eq_true rfl) dX2_gateOf_3) (fun v1 => ?_)
  refine qv_icmp_lt (pc := 6) (tgt := 12) g dX2_gateOf_6 (by decide) ?_ ?_
  · refine qv_iload_n (pc := 12) g dX2_gateOf_12 rfl rfl ?_
    refine qv_istore_n (pc := 13) (lv1 := [(3, .int p1), (0, .ref (X.2.2.2 + t)), (1, .int p1), (2, .int p2)]) g dX2_gateOf_13 rfl (by decide) rfl ?_
    refine qv_iconst (v := 0) (pc := 14) g dX2_gateOf_14 (by decide) ?_
    refine qv_istore (pc := 15) (lv1 := [(4, .int 0), (3, .int p1), (0, .ref (X.2.2.2 + t)), (1, .int p1), (2, .int p2)]) g dX2_gateOf_15 (by decide) rfl ?_
    refine qv_join (fun (k3 : Int32 → Option Int32) => ∀ (v2 : Int32), qv_V G X 5 (qv_QM G X T (qv_eI M) (0, 0)) T (0, 0) 35 [(0, .ref (X.2.2.2 + t)), (3, .int v2)] [] M (k3 v2)) (fun v2 => ?_) (fun k3 qk3 => ?_)
    · refine qv_aload_n (pc := 35) g dX2_gateOf_35 rfl rfl ?_
      refine qv_iload_n (pc := 36) g dX2_gateOf_36 rfl rfl ?_
      refine qv_aI rfl (qv_cv (pc := 37) g (c_X2_firstGateOf (gl G) X (d + 1) T _ _ M ht) (qv_R hRm (by omega) (by decide)) ⟨Nat.zero_le _, Nat.zero_le _⟩ mw_X2_firstGateOf lk_RX2_122 im_X2_firstGateOf se_X2_firstGateOf (by decide) rfl ht pd_X2_firstGateOf rfl (Nat.le_of_ble_eq_true rfl) dX2_gateOf_37) (fun v4 => ?_)
      exact qv_iret (pc := 40) g hr rfl dX2_gateOf_40
    refine qv_lv [2, 4, 1, 0] rfl ?_
    exact qv_L2 (Vh := fun (v5 : Int32) (v6 : Int32) o => qv_V G X 5 (qv_QM G X T (qv_eI M) (0, 0)) T (0, 0) 17 [(0, .ref (X.2.2.2 + t)), (2, .int p2), (3, .int v5), (4, .int v6)] [] M o) (fun _ _ => qv_none) (fun r7 qr7 v5 v6 => by
      unfold b_X2_gateOf_17
      refine qv_iload (pc := 17) g dX2_gateOf_17 rfl ?_
      refine qv_iload_n (pc := 19) g dX2_gateOf_19 rfl rfl ?_
      refine qv_icmp_ge (pc := 20) (tgt := 35) g dX2_gateOf_20 (by decide) ?_ ?_
      · refine qv_lv [0, 2] rfl ?_
        exact qk3 _
      · refine qv_aload_n (pc := 23) g dX2_gateOf_23 rfl rfl ?_
        refine qv_iload_n (pc := 24) g dX2_gateOf_24 rfl rfl ?_
        refine qv_aI rfl (qv_cv (pc := 25) g (c_X2_restOf (gl G) X d T _ _ M ht) (qv_R hRm (by omega) (by decide)) ⟨Nat.zero_le _, Nat.zero_le _⟩ mw_X2_restOf lk_RX2_119 im_X2_restOf se_X2_restOf (by decide) rfl ht pd_X2_restOf rfl (Nat.le_of_ble_eq_true rfl) dX2_gateOf_25) (fun v8 => ?_)
        refine qv_istore_n (pc := 28) (lv1 := [(3, .int v8), (0, .ref (X.2.2.2 + t)), (2, .int p2), (4, .int v6)]) g dX2_gateOf_28 rfl (by decide) rfl ?_
        refine qv_iinc (pc := 29) (v := (v6 + 1)) (lv1 := [(4, .int (v6 + 1)), (3, .int v8), (0, .ref (X.2.2.2 + t)), (2, .int p2)]) g dX2_gateOf_29 rfl rfl (by decide) rfl ?_
        refine qv_goto (pc := 32) (tgt := 17) g dX2_gateOf_32 (by decide) ?_
        refine qv_lv [2, 3, 1, 0] rfl ?_
        exact qr7 _ _) _ _ _
  · refine qv_bipush (v := (-2)) (pc := 9) g dX2_gateOf_9 (by decide) ?_
    exact qv_iret (pc := 11) g hr rfl dX2_gateOf_11

set_option maxHeartbeats 4000000 in
set_option maxRecDepth 100000 in
theorem c_X9_cheapest (l : Launch) (X : qv_X) (d : Nat) (T : List qv_Ent) (t : Nat) (p1 : Int32) (p2 : Int32) (M : qv_Mem) {nt : Nat} (ht : qv_is (nt + 4) T 9 14 t) : qv_Ok l X yX9_cheapest cX9_cheapest 3 (some .int) (d + 6) T M [.ref (X.2.2.2 + t), .int p1, .int p2] qv_eIM (f_X9_cheapest T t p1 p2 M) := by
  refine qv_mk (lv := [(0, .ref (X.2.2.2 + t)), (1, .int p1), (2, .int p2)]) (by decide) (Nat.le_of_ble_eq_true rfl) rfl (fun G hG hRm g hr => ?_)
  have g : qv_ok G X cX9_cheapest RX9 3 := g
  unfold f_X9_cheapest
  refine qv_iload_n (pc := 0) g dX9_cheapest_0 rfl rfl ?_
  refine qv_sipush (v := 192) (pc := 1) g dX9_cheapest_1 (by decide) ?_
  refine qv_aI rfl (qv_cs (pc := 4) g (c_X9_isBelow (gl G) X (d + 5) T _ _ M) (qv_R hRm (by omega) (by decide)) ⟨Nat.zero_le _, Nat.zero_le _⟩ mw_X9_isBelow lk_RX9_133 st_X9_isBelow pd_X9_isBelow rfl (Nat.le_of_ble_eq_true rfl) dX9_cheapest_4) (fun v1 => ?_)
  refine qv_if_eq (pc := 7) (tgt := 16) g dX9_cheapest_7 (by decide) ?_ ?_
  · refine qv_iconst (v := (-1)) (pc := 16) g dX9_cheapest_16 (by decide) ?_
    exact qv_iret (pc := 17) g hr rfl dX9_cheapest_17
  · refine qv_iload_n (pc := 10) g dX9_cheapest_10 rfl rfl ?_
    refine qv_bipush (v := (-2)) (pc := 11) g dX9_cheapest_11 (by decide) ?_
    refine qv_icmp_ge (pc := 13) (tgt := 18) g dX9_cheapest_13 (by decide) ?_ ?_
    · refine qv_aload_n (pc := 18) g dX9_cheapest_18 rfl rfl ?_
      have h1 : qv_is _ T 2 10 (qv_rf T t 6) := ht.to 6 (by decide) (by decide) rfl
      refine qv_getr (pc := 19) g fw_RX9_49 ht (by decide) (by decide) rfl dX9_cheapest_19 ?_
      refine qv_aload_n (pc := 22) g dX9_cheapest_22 rfl rfl ?_
      have h2 : qv_is _ T 0 3 (qv_rf T t 0) := ht.to 0 (by decide) (by decide) rfl
      refine qv_getr (pc := 23) g fw_RX9_12 ht (by decide) (by decide) rfl dX9_cheapest_23 ?_
      have h3 : qv_is _ T 20 7 (qv_rf T (qv_rf T t 0) 2) := h2.to 2 (by decide) (by decide) rfl
      refine qv_getr (pc := 26) g fw_RX9_177 h2 (by decide) (by decide) rfl dX9_cheapest_26 ?_
      refine qv_aV (qv_cv (pc := 29) g (c_X2_rankBy (gl G) X d T _ _ M h1 h3) (qv_R hRm (by omega) (by decide)) ⟨Nat.zero_le _, Nat.zero_le _⟩ mw_X2_rankBy lk_RX9_181 im_X2_rankBy se_X2_rankBy (by decide) rfl h1 pd_X2_rankBy rfl (Nat.le_of_ble_eq_true rfl) dX9_cheapest_29) (fun M2 => ?_)
      refine qv_iload_n (pc := 32) g dX9_cheapest_32 rfl rfl ?_
      refine qv_bipush (v := (-2)) (pc := 33) g dX9_cheapest_33 (by decide) ?_
      refine qv_icmp_ne (pc := 35) (tgt := 47) g dX9_cheapest_35 (by decide) ?_ ?_
      · refine qv_iload_n (pc := 47) g dX9_cheapest_47 rfl rfl ?_
        refine qv_iconst (v := (-1)) (pc := 48) g dX9_cheapest_48 (by decide) ?_
        refine qv_icmp_ne (pc := 49) (tgt := 63) g dX9_cheapest_49 (by decide) ?_ ?_
        · refine qv_aload_n (pc := 63) g dX9_cheapest_63 rfl rfl ?_
          refine qv_getr (pc := 64) g fw_RX9_49 ht (by decide) (by decide) rfl dX9_cheapest_64 ?_
          refine qv_iload_n (pc := 67) g dX9_cheapest_67 rfl rfl ?_
          refine qv_iload_n (pc := 68) g dX9_cheapest_68 rfl rfl ?_
          refine qv_aI rfl (qv_cv (pc := 69) g (c_X2_gateOf (gl G) X (d + 2) T _ _ _ M2 h1) (qv_R hRm (by omega) (by decide)) ⟨Nat.zero_le _, Nat.zero_le _⟩ mw_X2_gateOf lk_RX9_191 im_X2_gateOf se_X2_gateOf (by decide) rfl h1 pd_X2_gateOf rfl (Nat.le_of_ble_eq_true rfl) dX9_cheapest_69) (fun v3 => ?_)
          exact qv_iret (pc := 72) g hr rfl dX9_cheapest_72
        · refine qv_aload_n (pc := 52) g dX9_cheapest_52 rfl rfl ?_
          refine qv_getr (pc := 53) g fw_RX9_49 ht (by decide) (by decide) rfl dX9_cheapest_53 ?_
          refine qv_iload_n (pc := 56) g dX9_cheapest_56 rfl rfl ?_
          refine qv_aI rfl (qv_cv (pc := 57) g (c_X2_lengthOf (gl G) X (d + 5) T _ _ M2 h1) (qv_R hRm (by omega) (by decide)) ⟨Nat.zero_le _, Nat.zero_le _⟩ mw_X2_lengthOf lk_RX9_188 im_X2_lengthOf se_X2_lengthOf (by decide) rfl h1 pd_X2_lengthOf rfl (Nat.le_of_ble_eq_true rfl) dX9_cheapest_57) (fun v4 => ?_)
          refine qv_goto (pc := 60) (tgt := 72) g dX9_cheapest_60 (by decide) ?_
          exact qv_iret (pc := 72) g hr rfl dX9_cheapest_72
      · refine qv_aload_n (pc := 38) g dX9_cheapest_38 rfl rfl ?_
        refine qv_getr (pc := 39) g fw_RX9_49 ht (by decide) (by decide) rfl dX9_cheapest_39 ?_
        refine qv_iload_n (pc := 42) g dX9_cheapest_42 rfl rfl ?_
        refine qv_aI rfl (qv_cv (pc := 43) g (c_X2_costOf (gl G) X (d + 5) T _ _ M2 h1) (qv_R hRm (by omega) (by decide)) ⟨Nat.zero_le _, Nat.zero_le _⟩ mw_X2_costOf lk_RX9_185 im_X2_costOf se_X2_costOf (by decide) rfl h1 pd_X2_costOf rfl (Nat.le_of_ble_eq_true rfl) dX9_cheapest_43) (fun v5 => ?_)
        exact qv_iret (pc := 46) g hr rfl dX9_cheapest_46
    · refine qv_iconst (v := (-1)) (pc := 16) g dX9_cheapest_16 (by decide) ?_
      exact qv_iret (pc := 17) g hr rfl dX9_cheapest_17

set_option maxHeartbeats 4000000 in
set_option maxRecDepth 100000 in
theorem c_X9_isWord (l : Launch) (X : qv_X) (d : Nat) (T : List qv_Ent) (p0 : Int32) (M : qv_Mem)  : qv_Ok l X yX9_isWord cX9_isWord 1 (some .boolean) (d + 1) T M [.int p0] (qv_eI M) (f_X9_isWord p0) := by
  refine qv_mk (lv := [(0, .int p0)]) (by decide) (Nat.le_of_ble_eq_true rfl) rfl (fun G hG hRm g hr => ?_)
  have g : qv_ok G X cX9_isWord RX9 1 := g
  unfold f_X9_isWord
  refine qv_iload_n (pc := 0) g dX9_isWord_0 rfl rfl ?_
  refine qv_iconst (v := 3) (pc := 1) g dX9_isWord_1 (by decide) ?_
  refine qv_aI rfl (qv_cs (pc := 2) g (c_X9_isBelow (gl G) X d T _ _ M) (qv_R hRm (by omega) (by decide)) ⟨Nat.zero_le _, Nat.zero_le _⟩ mw_X9_isBelow lk_RX9_133 st_X9_isBelow pd_X9_isBelow rfl (Nat.le_of_ble_eq_true rfl) dX9_isWord_2) (fun v1 => ?_)
  exact qv_zretg (pc := 5) g hr rfl dX9_isWord_5

set_option maxHeartbeats 4000000 in
set_option maxRecDepth 100000 in
theorem c_X6_makeCopy (l : Launch) (X : qv_X) (d : Nat) (T : List qv_Ent) (t : Nat) (t1 : Nat) (M : qv_Mem) {nt : Nat} (ht : qv_is (nt + 1) T 6 2 t) {nt1 : Nat} (ht1 : qv_is (nt1 + 1) T 6 2 t1) : qv_Ok l X yX6_makeCopy cX6_makeCopy 2 none (d) T M [.ref (X.2.2.2 + t), .ref (X.2.2.2 + t1)] qv_eV (f_X6_makeCopy T t t1 M) := by
  refine qv_mk (lv := [(0, .ref (X.2.2.2 + t)), (1, .ref (X.2.2.2 + t1))]) (by decide) (Nat.le_of_ble_eq_true rfl) rfl (fun G hG hRm g hr => ?_)
  have g : qv_ok G X cX6_makeCopy RX6 2 := g
  unfold f_X6_makeCopy
  refine qv_aload_n (pc := 0) g dX6_makeCopy_0 rfl rfl ?_
  have h1 : qv_is _ T 20 60 (qv_rf T t1 0) := ht1.to 0 (by decide) (by decide) rfl
  refine qv_getr (pc := 1) g fw_RX6_9 ht1 (by decide) (by decide) rfl dX6_makeCopy_1 ?_
  refine qv_iconst (v := 0) (pc := 4) g dX6_makeCopy_4 (by decide) ?_
  refine qv_aload_n (pc := 5) g dX6_makeCopy_5 rfl rfl ?_
  have h2 : qv_is _ T 20 60 (qv_rf T t 0) := ht.to 0 (by decide) (by decide) rfl
  refine qv_getr (pc := 6) g fw_RX6_9 ht (by decide) (by decide) rfl dX6_makeCopy_6 ?_
  refine qv_iconst (v := 0) (pc := 9) g dX6_makeCopy_9 (by decide) ?_
  refine qv_aload_n (pc := 10) g dX6_makeCopy_10 rfl rfl ?_
  refine qv_gets (pc := 11) g fw_RX6_15 ht1 (by decide) (by decide) rfl dX6_makeCopy_11 (fun v1 => ?_)
  refine qv_copyI (pc := 14) g lk_RX6_19 nt_copy st_copy ini_sys h1 h2 (Nat.le_of_ble_eq_true rfl) dX6_makeCopy_14 (fun M2 => ?_)
  refine qv_aload_n (pc := 17) g dX6_makeCopy_17 rfl rfl ?_
  refine qv_aload_n (pc := 18) g dX6_makeCopy_18 rfl rfl ?_
  refine qv_gets (pc := 19) g fw_RX6_15 ht1 (by decide) (by decide) rfl dX6_makeCopy_19 (fun v3 => ?_)
  refine qv_puti (pc := 22) g pw_RX6_15 ht (by decide) (by decide) rfl dX6_makeCopy_22 (fun M4 => ?_)
  exact qv_vret (pc := 25) g hr rfl dX6_makeCopy_25

set_option maxHeartbeats 4000000 in
set_option maxRecDepth 100000 in
theorem c_X6_add (l : Launch) (X : qv_X) (d : Nat) (T : List qv_Ent) (t : Nat) (p1 : Int32) (M : qv_Mem) {nt : Nat} (ht : qv_is (nt + 1) T 6 2 t) : qv_Ok l X yX6_add cX6_add 2 (some .boolean) (d) T M [.ref (X.2.2.2 + t), .int p1] qv_eIM (f_X6_add T t p1 M) := by
  refine qv_mk (lv := [(0, .ref (X.2.2.2 + t)), (1, .int p1)]) (by decide) (Nat.le_of_ble_eq_true rfl) rfl (fun G hG hRm g hr => ?_)
  have g : qv_ok G X cX6_add RX6 2 := g
  unfold f_X6_add
  refine qv_aload_n (pc := 0) g dX6_add_0 rfl rfl ?_
  refine qv_gets (pc := 1) g fw_RX6_15 ht (by decide) (by decide) rfl dX6_add_1 (fun v1 => ?_)
  refine qv_bipush (v := 60) (pc := 4) g dX6_add_4 (by decide) ?_
  refine qv_icmp_lt (pc := 6) (tgt := 11) g dX6_add_6 (by decide) ?_ ?_
  · refine qv_aload_n (pc := 11) g dX6_add_11 rfl rfl ?_
    have h1 : qv_is _ T 20 60 (qv_rf T t 0) := ht.to 0 (by decide) (by decide) rfl
    refine qv_getr (pc := 12) g fw_RX6_9 ht (by decide) (by decide) rfl dX6_add_12 ?_
    refine qv_aload_n (pc := 15) g dX6_add_15 rfl rfl ?_
    refine qv_gets (pc := 16) g fw_RX6_15 ht (by decide) (by decide) rfl dX6_add_16 (fun v2 => ?_)
    refine qv_iload_n (pc := 19) g dX6_add_19 rfl rfl ?_
    refine qv_iast (pc := 20) g h1 dX6_add_20 (fun M3 => ?_)
    refine qv_aload_n (pc := 21) g dX6_add_21 rfl rfl ?_
    refine qv_dup (pc := 22) g dX6_add_22 rfl ?_
    refine qv_gets (pc := 23) g fw_RX6_15 ht (by decide) (by decide) rfl dX6_add_23 (fun v4 => ?_)
    refine qv_iconst (v := 1) (pc := 26) g dX6_add_26 (by decide) ?_
    refine qv_iadd (pc := 27) g dX6_add_27 ?_
    refine qv_puti (pc := 28) g pw_RX6_15 ht (by decide) (by decide) rfl dX6_add_28 (fun M5 => ?_)
    refine qv_iconst (v := 1) (pc := 31) g dX6_add_31 (by decide) ?_
    exact qv_zret (pc := 32) g hr rfl rfl dX6_add_32
  · refine qv_iconst (v := 0) (pc := 9) g dX6_add_9 (by decide) ?_
    exact qv_zret (pc := 10) g hr rfl rfl dX6_add_10

set_option maxHeartbeats 4000000 in
set_option maxRecDepth 100000 in
theorem c_X6_isSame (l : Launch) (X : qv_X) (d : Nat) (T : List qv_Ent) (t : Nat) (t1 : Nat) (M : qv_Mem) {nt : Nat} (ht : qv_is (nt + 1) T 6 2 t) {nt1 : Nat} (ht1 : qv_is (nt1 + 1) T 6 2 t1) : qv_Ok l X yX6_isSame cX6_isSame 3 (some .boolean) (d) T M [.ref (X.2.2.2 + t), .ref (X.2.2.2 + t1)] (qv_eI M) (f_X6_isSame T t t1 M) := by
  refine qv_mk (lv := [(0, .ref (X.2.2.2 + t)), (1, .ref (X.2.2.2 + t1))]) (by decide) (Nat.le_of_ble_eq_true rfl) rfl (fun G hG hRm g hr => ?_)
  have g : qv_ok G X cX6_isSame RX6 3 := g
  unfold f_X6_isSame
  refine qv_aload_n (pc := 0) g dX6_isSame_0 rfl rfl ?_
  refine qv_gets (pc := 1) g fw_RX6_15 ht (by decide) (by decide) rfl dX6_isSame_1 (fun v1 => ?_)
  refine qv_aload_n (pc := 4) g dX6_isSame_4 rfl rfl ?_
  refine qv_gets (pc := 5) g fw_RX6_15 ht1 (by decide) (by decide) rfl dX6_isSame_5 (fun v2 => ?_)
  refine qv_icmp_eq (pc := 8) (tgt := 13) g dX6_isSame_8 (by decide) ?_ ?_
  · refine qv_iconst (v := 0) (pc := 13) g dX6_isSame_13 (by decide) ?_
    refine qv_istore_n (pc := 14) (lv1 := [(2, .int 0), (0, .ref (X.2.2.2 + t)), (1, .ref (X.2.2.2 + t1))]) g dX6_isSame_14 rfl (by decide) rfl ?_
    refine qv_join (fun (k3 : Unit → Option Int32) => ∀ (_ : Unit), qv_V G X 3 (qv_QM G X T (qv_eI M) (0, 0)) T (0, 0) 46 [] [] M (k3 ())) (fun _ => ?_) (fun k3 qk3 => ?_)
    · refine qv_iconst (v := 1) (pc := 46) g dX6_isSame_46 (by decide) ?_
      exact qv_zret (pc := 47) g hr rfl rfl dX6_isSame_47
    refine qv_lv [1, 2, 0] rfl ?_
    exact qv_L1 (Vh := fun (v4 : Int32) o => qv_V G X 3 (qv_QM G X T (qv_eI M) (0, 0)) T (0, 0) 15 [(0, .ref (X.2.2.2 + t)), (1, .ref (X.2.2.2 + t1)), (2, .int v4)] [] M o) (fun _ => qv_none) (fun r5 qr5 v4 => by
      unfold b_X6_isSame_15
      refine qv_iload_n (pc := 15) g dX6_isSame_15 rfl rfl ?_
      refine qv_aload_n (pc := 16) g dX6_isSame_16 rfl rfl ?_
      refine qv_gets (pc := 17) g fw_RX6_15 ht (by decide) (by decide) rfl dX6_isSame_17 (fun v6 => ?_)
      refine qv_icmp_ge (pc := 20) (tgt := 46) g dX6_isSame_20 (by decide) ?_ ?_
      · refine qv_lv [] rfl ?_
        exact qk3 ()
      · refine qv_aload_n (pc := 23) g dX6_isSame_23 rfl rfl ?_
        have h1 : qv_is _ T 20 60 (qv_rf T t 0) := ht.to 0 (by decide) (by decide) rfl
        refine qv_getr (pc := 24) g fw_RX6_9 ht (by decide) (by decide) rfl dX6_isSame_24 ?_
        refine qv_iload_n (pc := 27) g dX6_isSame_27 rfl rfl ?_
        refine qv_iald (pc := 28) g h1 dX6_isSame_28 (fun v7 => ?_)
        refine qv_aload_n (pc := 29) g dX6_isSame_29 rfl rfl ?_
        have h2 : qv_is _ T 20 60 (qv_rf T t1 0) := ht1.to 0 (by decide) (by decide) rfl
        refine qv_getr (pc := 30) g fw_RX6_9 ht1 (by decide) (by decide) rfl dX6_isSame_30 ?_
        refine qv_iload_n (pc := 33) g dX6_isSame_33 rfl rfl ?_
        refine qv_iald (pc := 34) g h2 dX6_isSame_34 (fun v8 => ?_)
        refine qv_icmp_eq (pc := 35) (tgt := 40) g dX6_isSame_35 (by decide) ?_ ?_
        · refine qv_iinc (pc := 40) (v := (v4 + 1)) (lv1 := [(2, .int (v4 + 1)), (0, .ref (X.2.2.2 + t)), (1, .ref (X.2.2.2 + t1))]) g dX6_isSame_40 rfl rfl (by decide) rfl ?_
          refine qv_goto (pc := 43) (tgt := 15) g dX6_isSame_43 (by decide) ?_
          refine qv_lv [1, 2, 0] rfl ?_
          exact qr5 _
        · refine qv_iconst (v := 0) (pc := 38) g dX6_isSame_38 (by decide) ?_
          exact qv_zret (pc := 39) g hr rfl rfl dX6_isSame_39) _ _
  · refine qv_iconst (v := 0) (pc := 11) g dX6_isSame_11 (by decide) ?_
    exact qv_zret (pc := 12) g hr rfl rfl dX6_isSame_12

set_option maxHeartbeats 4000000 in
set_option maxRecDepth 100000 in
theorem c_X3_keep (l : Launch) (X : qv_X) (d : Nat) (T : List qv_Ent) (t : Nat) (p1 : Int32) (t2 : Nat) (M : qv_Mem) {nt : Nat} (ht : qv_is (nt + 3) T 3 4 t) {nt2 : Nat} (ht2 : qv_is (nt2 + 1) T 6 2 t2) : qv_Ok l X yX3_keep cX3_keep 3 none (d + 1) T M [.ref (X.2.2.2 + t), .int p1, .ref (X.2.2.2 + t2)] qv_eV (f_X3_keep T t p1 t2 M) := by
  refine qv_mk (lv := [(0, .ref (X.2.2.2 + t)), (1, .int p1), (2, .ref (X.2.2.2 + t2))]) (by decide) (Nat.le_of_ble_eq_true rfl) rfl (fun G hG hRm g hr => ?_)
  have g : qv_ok G X cX3_keep RX3 3 := g
  unfold f_X3_keep
  refine qv_aload_n (pc := 0) g dX3_keep_0 rfl rfl ?_
  have h1 : qv_is _ T 36 8 (qv_rf T t 0) := ht.to 0 (by decide) (by decide) rfl
  refine qv_getr (pc := 1) g fw_RX3_11 ht (by decide) (by decide) rfl dX3_keep_1 ?_
  refine qv_aload_n (pc := 4) g dX3_keep_4 rfl rfl ?_
  refine qv_gets (pc := 5) g fw_RX3_21 ht (by decide) (by decide) rfl dX3_keep_5 (fun v1 => ?_)
  refine qv_aald (pc := 8) g (by decide) h1 (fun _ _ => ⟨_, rfl⟩) dX3_keep_8 (fun z2 => ?_)
  have h2 : qv_is _ T 6 2 (qv_rf T (qv_rf T t 0) v1.toNatClampNeg) := h1.to _ (by decide) (qv_inb_lt z2) rfl
  refine qv_aload_n (pc := 9) g dX3_keep_9 rfl rfl ?_
  refine qv_aV (qv_cv (pc := 10) g (c_X6_makeCopy (gl G) X d T _ _ M h2 ht2) (qv_R hRm (by omega) (by decide)) ⟨Nat.zero_le _, Nat.zero_le _⟩ mw_X6_makeCopy lk_RX3_29 im_X6_makeCopy se_X6_makeCopy (by decide) rfl h2 pd_X6_makeCopy rfl (Nat.le_of_ble_eq_true rfl) dX3_keep_10) (fun M3 => ?_)
  refine qv_aload_n (pc := 13) g dX3_keep_13 rfl rfl ?_
  have h3 : qv_is _ T 20 8 (qv_rf T t 1) := ht.to 1 (by decide) (by decide) rfl
  refine qv_getr (pc := 14) g fw_RX3_17 ht (by decide) (by decide) rfl dX3_keep_14 ?_
  refine qv_aload_n (pc := 17) g dX3_keep_17 rfl rfl ?_
  refine qv_gets (pc := 18) g fw_RX3_21 ht (by decide) (by decide) rfl dX3_keep_18 (fun v4 => ?_)
  refine qv_iload_n (pc := 21) g dX3_keep_21 rfl rfl ?_
  refine qv_iast (pc := 22) g h3 dX3_keep_22 (fun M5 => ?_)
  refine qv_aload_n (pc := 23) g dX3_keep_23 rfl rfl ?_
  refine qv_aload_n (pc := 24) g dX3_keep_24 rfl rfl ?_
  refine qv_gets (pc := 25) g fw_RX3_21 ht (by decide) (by decide) rfl dX3_keep_25 (fun v6 => ?_)
  refine qv_iconst (v := 1) (pc := 28) g dX3_keep_28 (by decide) ?_
  refine qv_iadd (pc := 29) g dX3_keep_29 ?_
  refine qv_bipush (v := 8) (pc := 30) g dX3_keep_30 (by decide) ?_
  refine qv_irem (pc := 32) g dX3_keep_32 (by decide) ?_
  refine qv_puti (pc := 33) g pw_RX3_21 ht (by decide) (by decide) rfl dX3_keep_33 (fun M7 => ?_)
  refine qv_aload_n (pc := 36) g dX3_keep_36 rfl rfl ?_
  refine qv_aload_n (pc := 37) g dX3_keep_37 rfl rfl ?_
  refine qv_gets (pc := 38) g fw_RX3_25 ht (by decide) (by decide) rfl dX3_keep_38 (fun v8 => ?_)
  refine qv_iconst (v := 1) (pc := 41) g dX3_keep_41 (by decide) ?_
  refine qv_iadd (pc := 42) g dX3_keep_42 ?_
  refine qv_bipush (v := 8) (pc := 43) g dX3_keep_43 (by decide) ?_
  refine qv_mmin (pc := 45) g lk_RX3_33 st_math_min ini_math cd_math_min (Nat.le_of_ble_eq_true rfl) ⟨Nat.zero_le _, Nat.zero_le _⟩ dX3_keep_45 ?_
  refine qv_puti (pc := 48) g pw_RX3_25 ht (by decide) (by decide) rfl dX3_keep_48 (fun M9 => ?_)
  exact qv_vret (pc := 51) g hr rfl dX3_keep_51

set_option maxHeartbeats 4000000 in
set_option maxRecDepth 100000 in
theorem c_X9_settleWord (l : Launch) (X : qv_X) (d : Nat) (T : List qv_Ent) (t : Nat) (p1 : Int32) (M : qv_Mem) {nt : Nat} (ht : qv_is (nt + 4) T 9 14 t) : qv_Ok l X yX9_settleWord cX9_settleWord 3 (some .int) (d + 2) T M [.ref (X.2.2.2 + t), .int p1] qv_eIM (f_X9_settleWord T t p1 M) := by
  refine qv_mk (lv := [(0, .ref (X.2.2.2 + t)), (1, .int p1)]) (by decide) (Nat.le_of_ble_eq_true rfl) rfl (fun G hG hRm g hr => ?_)
  have g : qv_ok G X cX9_settleWord RX9 3 := g
  unfold f_X9_settleWord
  refine qv_aload_n (pc := 0) g dX9_settleWord_0 rfl rfl ?_
  have h1 : qv_is _ T 0 3 (qv_rf T t 0) := ht.to 0 (by decide) (by decide) rfl
  refine qv_getr (pc := 1) g fw_RX9_12 ht (by decide) (by decide) rfl dX9_settleWord_1 ?_
  have h2 : qv_is _ T 36 3 (qv_rf T (qv_rf T t 0) 1) := h1.to 1 (by decide) (by decide) rfl
  refine qv_getr (pc := 4) g fw_RX9_197 h1 (by decide) (by decide) rfl dX9_settleWord_4 ?_
  refine qv_iload_n (pc := 7) g dX9_settleWord_7 rfl rfl ?_
  refine qv_aald (pc := 8) g (by decide) h2 (fun _ _ => ⟨_, rfl⟩) dX9_settleWord_8 (fun z1 => ?_)
  have h3 : qv_is _ T 6 2 (qv_rf T (qv_rf T (qv_rf T t 0) 1) p1.toNatClampNeg) := h2.to _ (by decide) (qv_inb_lt z1) rfl
  refine qv_astore_n (pc := 9) (lv1 := [(2, .ref (X.2.2.2 + (qv_rf T (qv_rf T (qv_rf T t 0) 1) p1.toNatClampNeg))), (0, .ref (X.2.2.2 + t)), (1, .int p1)]) g dX9_settleWord_9 rfl (by decide) rfl ?_
  refine qv_aload_n (pc := 10) g dX9_settleWord_10 rfl rfl ?_
  refine qv_aload_n (pc := 11) g dX9_settleWord_11 rfl rfl ?_
  have h4 : qv_is _ T 6 2 (qv_rf T t 9) := ht.to 9 (by decide) (by decide) rfl
  refine qv_getr (pc := 12) g fw_RX9_70 ht (by decide) (by decide) rfl dX9_settleWord_12 ?_
  refine qv_aI rfl (qv_cv (pc := 15) g (c_X6_isSame (gl G) X (d + 1) T _ _ M h3 h4) (qv_R hRm (by omega) (by decide)) ⟨Nat.zero_le _, Nat.zero_le _⟩ mw_X6_isSame lk_RX9_267 im_X6_isSame se_X6_isSame (by decide) rfl h3 pd_X6_isSame rfl (Nat.le_of_ble_eq_true rfl) dX9_settleWord_15) (fun v2 => ?_)
  refine qv_join (fun (k4 : qv_Mem → Option (Int32 × qv_Mem)) => ∀ (M3 : qv_Mem), qv_V G X 3 (qv_QM G X T qv_eIM (0, 0)) T (0, 0) 38 [(2, .ref (X.2.2.2 + (qv_rf T (qv_rf T (qv_rf T t 0) 1) p1.toNatClampNeg)))] [] M3 (k4 M3)) (fun M3 => ?_) (fun k4 qk4 => ?_)
  · refine qv_aload_n (pc := 38) g dX9_settleWord_38 rfl rfl ?_
    refine qv_gets (pc := 39) g fw_RX9_210 h3 (by decide) (by decide) rfl dX9_settleWord_39 (fun v5 => ?_)
    exact qv_iret (pc := 42) g hr rfl dX9_settleWord_42
  refine qv_if_ne (pc := 18) (tgt := 38) g dX9_settleWord_18 (by decide) ?_ ?_
  · refine qv_lv [0] rfl ?_
    exact qk4 _
  · refine qv_aload_n (pc := 21) g dX9_settleWord_21 rfl rfl ?_
    have h5 : qv_is _ T 3 4 (qv_rf T t 3) := ht.to 3 (by decide) (by decide) rfl
    refine qv_getr (pc := 22) g fw_RX9_28 ht (by decide) (by decide) rfl dX9_settleWord_22 ?_
    refine qv_iload_n (pc := 25) g dX9_settleWord_25 rfl rfl ?_
    refine qv_aload_n (pc := 26) g dX9_settleWord_26 rfl rfl ?_
    refine qv_aV (qv_cv (pc := 27) g (c_X3_keep (gl G) X d T _ _ _ M h5 h3) (qv_R hRm (by omega) (by decide)) ⟨Nat.zero_le _, Nat.zero_le _⟩ mw_X3_keep lk_RX9_270 im_X3_keep se_X3_keep (by decide) rfl h5 pd_X3_keep rfl (Nat.le_of_ble_eq_true rfl) dX9_settleWord_27) (fun M6 => ?_)
    refine qv_aload_n (pc := 30) g dX9_settleWord_30 rfl rfl ?_
    refine qv_aload_n (pc := 31) g dX9_settleWord_31 rfl rfl ?_
    refine qv_getr (pc := 32) g fw_RX9_70 ht (by decide) (by decide) rfl dX9_settleWord_32 ?_
    refine qv_aV (qv_cv (pc := 35) g (c_X6_makeCopy (gl G) X (d + 1) T _ _ M6 h3 h4) (qv_R hRm (by omega) (by decide)) ⟨Nat.zero_le _, Nat.zero_le _⟩ mw_X6_makeCopy lk_RX9_201 im_X6_makeCopy se_X6_makeCopy (by decide) rfl h3 pd_X6_makeCopy rfl (Nat.le_of_ble_eq_true rfl) dX9_settleWord_35) (fun M7 => ?_)
    refine qv_lv [0] rfl ?_
    exact qk4 _

set_option maxHeartbeats 4000000 in
set_option maxRecDepth 100000 in
theorem c_X9_push (l : Launch) (X : qv_X) (d : Nat) (T : List qv_Ent) (t : Nat) (p1 : Int32) (p2 : Int32) (M : qv_Mem) {nt : Nat} (ht : qv_is (nt + 4) T 9 14 t) : qv_Ok l X yX9_push cX9_push 3 (some .int) (d + 3) T M [.ref (X.2.2.2 + t), .int p1, .int p2] qv_eIM (f_X9_push T t p1 p2 M) := by
  refine qv_mk (lv := [(0, .ref (X.2.2.2 + t)), (1, .int p1), (2, .int p2)]) (by decide) (Nat.le_of_ble_eq_true rfl) rfl (fun G hG hRm g hr => ?_)
  have g : qv_ok G X cX9_push RX9 3 := g
  unfold f_X9_push
  refine qv_iload_n (pc := 0) g dX9_push_0 rfl rfl ?_
  refine qv_aI rfl (qv_cs (pc := 1) g (c_X9_isWord (gl G) X (d + 1) T _ M) (qv_R hRm (by omega) (by decide)) ⟨Nat.zero_le _, Nat.zero_le _⟩ mw_X9_isWord lk_RX9_194 st_X9_isWord pd_X9_isWord rfl (Nat.le_of_ble_eq_true rfl) dX9_push_1) (fun v1 => ?_)
  refine qv_if_eq (pc := 4) (tgt := 14) g dX9_push_4 (by decide) ?_ ?_
  · refine qv_iconst (v := (-1)) (pc := 14) g dX9_push_14 (by decide) ?_
    exact qv_iret (pc := 15) g hr rfl dX9_push_15
  · refine qv_iload_n (pc := 7) g dX9_push_7 rfl rfl ?_
    refine qv_aI rfl (qv_cs (pc := 8) g (c_X9_isGate (gl G) X (d + 1) T _ M) (qv_R hRm (by omega) (by decide)) ⟨Nat.zero_le _, Nat.zero_le _⟩ mw_X9_isGate lk_RX9_105 st_X9_isGate pd_X9_isGate rfl (Nat.le_of_ble_eq_true rfl) dX9_push_8) (fun v2 => ?_)
    refine qv_if_ne (pc := 11) (tgt := 16) g dX9_push_11 (by decide) ?_ ?_
    · refine qv_aload_n (pc := 16) g dX9_push_16 rfl rfl ?_
      have h1 : qv_is _ T 6 2 (qv_rf T t 9) := ht.to 9 (by decide) (by decide) rfl
      refine qv_getr (pc := 17) g fw_RX9_70 ht (by decide) (by decide) rfl dX9_push_17 ?_
      refine qv_aload_n (pc := 20) g dX9_push_20 rfl rfl ?_
      have h2 : qv_is _ T 0 3 (qv_rf T t 0) := ht.to 0 (by decide) (by decide) rfl
      refine qv_getr (pc := 21) g fw_RX9_12 ht (by decide) (by decide) rfl dX9_push_21 ?_
      have h3 : qv_is _ T 36 3 (qv_rf T (qv_rf T t 0) 1) := h2.to 1 (by decide) (by decide) rfl
      refine qv_getr (pc := 24) g fw_RX9_197 h2 (by decide) (by decide) rfl dX9_push_24 ?_
      refine qv_iload_n (pc := 27) g dX9_push_27 rfl rfl ?_
      refine qv_aald (pc := 28) g (by decide) h3 (fun _ _ => ⟨_, rfl⟩) dX9_push_28 (fun z3 => ?_)
      have h4 : qv_is _ T 6 2 (qv_rf T (qv_rf T (qv_rf T t 0) 1) p1.toNatClampNeg) := h3.to _ (by decide) (qv_inb_lt z3) rfl
      refine qv_aV (qv_cv (pc := 29) g (c_X6_makeCopy (gl G) X (d + 2) T _ _ M h1 h4) (qv_R hRm (by omega) (by decide)) ⟨Nat.zero_le _, Nat.zero_le _⟩ mw_X6_makeCopy lk_RX9_201 im_X6_makeCopy se_X6_makeCopy (by decide) rfl h1 pd_X6_makeCopy rfl (Nat.le_of_ble_eq_true rfl) dX9_push_29) (fun M4 => ?_)
      refine qv_aload_n (pc := 32) g dX9_push_32 rfl rfl ?_
      refine qv_getr (pc := 33) g fw_RX9_70 ht (by decide) (by decide) rfl dX9_push_33 ?_
      refine qv_iload_n (pc := 36) g dX9_push_36 rfl rfl ?_
      refine qv_aIM (qv_cv (pc := 37) g (c_X6_add (gl G) X (d + 2) T _ _ M4 h1) (qv_R hRm (by omega) (by decide)) ⟨Nat.zero_le _, Nat.zero_le _⟩ mw_X6_add lk_RX9_204 im_X6_add se_X6_add (by decide) rfl h1 pd_X6_add rfl (Nat.le_of_ble_eq_true rfl) dX9_push_37) (fun v5 M6 => ?_)
      refine qv_if_eq (pc := 40) (tgt := 51) g dX9_push_40 (by decide) ?_ ?_
      · refine qv_bipush (v := (-3)) (pc := 51) g dX9_push_51 (by decide) ?_
        exact qv_iret (pc := 53) g hr rfl dX9_push_53
      · refine qv_aload_n (pc := 43) g dX9_push_43 rfl rfl ?_
        refine qv_iload_n (pc := 44) g dX9_push_44 rfl rfl ?_
        refine qv_aIM (qv_cv (pc := 45) g (c_X9_settleWord (gl G) X d T _ _ M6 ht) (qv_R hRm (by omega) (by decide)) ⟨Nat.zero_le _, Nat.zero_le _⟩ mw_X9_settleWord lk_RX9_207 im_X9_settleWord se_X9_settleWord (by decide) rfl ht pd_X9_settleWord rfl (Nat.le_of_ble_eq_true rfl) dX9_push_45) (fun v7 M8 => ?_)
        refine qv_goto (pc := 48) (tgt := 53) g dX9_push_48 (by decide) ?_
        exact qv_iret (pc := 53) g hr rfl dX9_push_53
    · refine qv_iconst (v := (-1)) (pc := 14) g dX9_push_14 (by decide) ?_
      exact qv_iret (pc := 15) g hr rfl dX9_push_15

set_option maxHeartbeats 4000000 in
set_option maxRecDepth 100000 in
theorem c_X6_at (l : Launch) (X : qv_X) (d : Nat) (T : List qv_Ent) (t : Nat) (p1 : Int32) (M : qv_Mem) {nt : Nat} (ht : qv_is (nt + 1) T 6 2 t) : qv_Ok l X yX6_at cX6_at 2 (some .int) (d + 1) T M [.ref (X.2.2.2 + t), .int p1] (qv_eI M) (f_X6_at T t p1 M) := by
  refine qv_mk (lv := [(0, .ref (X.2.2.2 + t)), (1, .int p1)]) (by decide) (Nat.le_of_ble_eq_true rfl) rfl (fun G hG hRm g hr => ?_)
  have g : qv_ok G X cX6_at RX6 2 := g
  unfold f_X6_at
  refine qv_iload_n (pc := 0) g dX6_at_0 rfl rfl ?_
  refine qv_aload_n (pc := 1) g dX6_at_1 rfl rfl ?_
  refine qv_gets (pc := 2) g fw_RX6_15 ht (by decide) (by decide) rfl dX6_at_2 (fun v1 => ?_)
  refine qv_aI rfl (qv_cn (pc := 5) g (c_X9_isBelow (gl G) X d T _ _ M) (qv_R hRm (by omega) (by decide)) ⟨Nat.zero_le _, Nat.zero_le _⟩ mw_X9_isBelow ln_RX6_25 st_X9_isBelow pd_X9_isBelow rfl (Nat.le_of_ble_eq_true rfl) dX6_at_5) (fun v2 => ?_)
  refine qv_if_eq (pc := 8) (tgt := 20) g dX6_at_8 (by decide) ?_ ?_
  · refine qv_bipush (v := (-2)) (pc := 20) g dX6_at_20 (by decide) ?_
    exact qv_iret (pc := 22) g hr rfl dX6_at_22
  · refine qv_aload_n (pc := 11) g dX6_at_11 rfl rfl ?_
    have h1 : qv_is _ T 20 60 (qv_rf T t 0) := ht.to 0 (by decide) (by decide) rfl
    refine qv_getr (pc := 12) g fw_RX6_9 ht (by decide) (by decide) rfl dX6_at_12 ?_
    refine qv_iload_n (pc := 15) g dX6_at_15 rfl rfl ?_
    refine qv_iald (pc := 16) g h1 dX6_at_16 (fun v3 => ?_)
    refine qv_goto (pc := 17) (tgt := 22) g dX6_at_17 (by decide) ?_
    exact qv_iret (pc := 22) g hr rfl dX6_at_22

set_option maxHeartbeats 4000000 in
set_option maxRecDepth 100000 in
theorem c_X6_cut (l : Launch) (X : qv_X) (d : Nat) (T : List qv_Ent) (t : Nat) (p1 : Int32) (p2 : Int32) (M : qv_Mem) {nt : Nat} (ht : qv_is (nt + 1) T 6 2 t) : qv_Ok l X yX6_cut cX6_cut 4 none (d) T M [.ref (X.2.2.2 + t), .int p1, .int p2] qv_eV (f_X6_cut T t p1 p2 M) := by
  refine qv_mk (lv := [(0, .ref (X.2.2.2 + t)), (1, .int p1), (2, .int p2)]) (by decide) (Nat.le_of_ble_eq_true rfl) rfl (fun G hG hRm g hr => ?_)
  have g : qv_ok G X cX6_cut RX6 4 := g
  unfold f_X6_cut
  refine qv_iload_n (pc := 0) g dX6_cut_0 rfl rfl ?_
  refine qv_if_lt (pc := 1) (tgt := 18) g dX6_cut_1 (by decide) ?_ ?_
  · exact qv_vret (pc := 18) g hr rfl dX6_cut_18
  · refine qv_iload_n (pc := 4) g dX6_cut_4 rfl rfl ?_
    refine qv_if_lt (pc := 5) (tgt := 18) g dX6_cut_5 (by decide) ?_ ?_
    · exact qv_vret (pc := 18) g hr rfl dX6_cut_18
    · refine qv_iload_n (pc := 8) g dX6_cut_8 rfl rfl ?_
      refine qv_iload_n (pc := 9) g dX6_cut_9 rfl rfl ?_
      refine qv_iadd (pc := 10) g dX6_cut_10 ?_
      refine qv_aload_n (pc := 11) g dX6_cut_11 rfl rfl ?_
      refine qv_gets (pc := 12) g fw_RX6_15 ht (by decide) (by decide) rfl dX6_cut_12 (fun v1 => ?_)
      refine qv_icmp_le (pc := 15) (tgt := 19) g dX6_cut_15 (by decide) ?_ ?_
      · refine qv_iload_n (pc := 19) g dX6_cut_19 rfl rfl ?_
        refine qv_iload_n (pc := 20) g dX6_cut_20 rfl rfl ?_
        refine qv_iadd (pc := 21) g dX6_cut_21 ?_
        refine qv_istore_n (pc := 22) (lv1 := [(3, .int (p1 + p2)), (0, .ref (X.2.2.2 + t)), (1, .int p1), (2, .int p2)]) g dX6_cut_22 rfl (by decide) rfl ?_
        refine qv_join (fun (k3 : qv_Mem → Option qv_Mem) => ∀ (M2 : qv_Mem), qv_V G X 4 (qv_QM G X T qv_eV (0, 0)) T (0, 0) 51 [(0, .ref (X.2.2.2 + t)), (2, .int p2)] [] M2 (k3 M2)) (fun M2 => ?_) (fun k3 qk3 => ?_)
        · refine qv_aload_n (pc := 51) g dX6_cut_51 rfl rfl ?_
          refine qv_dup (pc := 52) g dX6_cut_52 rfl ?_
          refine qv_gets (pc := 53) g fw_RX6_15 ht (by decide) (by decide) rfl dX6_cut_53 (fun v4 => ?_)
          refine qv_iload_n (pc := 56) g dX6_cut_56 rfl rfl ?_
          refine qv_isub (pc := 57) g dX6_cut_57 ?_
          refine qv_puti (pc := 58) g pw_RX6_15 ht (by decide) (by decide) rfl dX6_cut_58 (fun M5 => ?_)
          exact qv_vret (pc := 61) g hr rfl dX6_cut_61
        refine qv_lv [1, 3, 0] rfl ?_
        exact qv_L2 (Vh := fun (v6 : Int32) (M7 : qv_Mem) o => qv_V G X 4 (qv_QM G X T qv_eV (0, 0)) T (0, 0) 23 [(0, .ref (X.2.2.2 + t)), (2, .int p2), (3, .int v6)] [] M7 o) (fun _ _ => qv_none) (fun r8 qr8 v6 M7 => by
          unfold b_X6_cut_23
          refine qv_iload_n (pc := 23) g dX6_cut_23 rfl rfl ?_
          refine qv_aload_n (pc := 24) g dX6_cut_24 rfl rfl ?_
          refine qv_gets (pc := 25) g fw_RX6_15 ht (by decide) (by decide) rfl dX6_cut_25 (fun v9 => ?_)
          refine qv_icmp_ge (pc := 28) (tgt := 51) g dX6_cut_28 (by decide) ?_ ?_
          · refine qv_lv [0, 1] rfl ?_
            exact qk3 _
          · refine qv_aload_n (pc := 31) g dX6_cut_31 rfl rfl ?_
            have h1 : qv_is _ T 20 60 (qv_rf T t 0) := ht.to 0 (by decide) (by decide) rfl
            refine qv_getr (pc := 32) g fw_RX6_9 ht (by decide) (by decide) rfl dX6_cut_32 ?_
            refine qv_iload_n (pc := 35) g dX6_cut_35 rfl rfl ?_
            refine qv_iload_n (pc := 36) g dX6_cut_36 rfl rfl ?_
            refine qv_isub (pc := 37) g dX6_cut_37 ?_
            refine qv_aload_n (pc := 38) g dX6_cut_38 rfl rfl ?_
            refine qv_getr (pc := 39) g fw_RX6_9 ht (by decide) (by decide) rfl dX6_cut_39 ?_
            refine qv_iload_n (pc := 42) g dX6_cut_42 rfl rfl ?_
            refine qv_iald (pc := 43) g h1 dX6_cut_43 (fun v10 => ?_)
            refine qv_iast (pc := 44) g h1 dX6_cut_44 (fun M11 => ?_)
            refine qv_iinc (pc := 45) (v := (v6 + 1)) (lv1 := [(3, .int (v6 + 1)), (0, .ref (X.2.2.2 + t)), (2, .int p2)]) g dX6_cut_45 rfl rfl (by decide) rfl ?_
            refine qv_goto (pc := 48) (tgt := 23) g dX6_cut_48 (by decide) ?_
            refine qv_lv [1, 2, 0] rfl ?_
            exact qr8 _ _) _ _ _
      · exact qv_vret (pc := 18) g hr rfl dX6_cut_18

set_option maxHeartbeats 4000000 in
set_option maxRecDepth 100000 in
theorem c_X9_pull (l : Launch) (X : qv_X) (d : Nat) (T : List qv_Ent) (t : Nat) (p1 : Int32) (M : qv_Mem) {nt : Nat} (ht : qv_is (nt + 4) T 9 14 t) : qv_Ok l X yX9_pull cX9_pull 3 (some .int) (d + 3) T M [.ref (X.2.2.2 + t), .int p1] qv_eIM (f_X9_pull T t p1 M) := by
  refine qv_mk (lv := [(0, .ref (X.2.2.2 + t)), (1, .int p1)]) (by decide) (Nat.le_of_ble_eq_true rfl) rfl (fun G hG hRm g hr => ?_)
  have g : qv_ok G X cX9_pull RX9 3 := g
  unfold f_X9_pull
  refine qv_iload_n (pc := 0) g dX9_pull_0 rfl rfl ?_
  refine qv_aI rfl (qv_cs (pc := 1) g (c_X9_isWord (gl G) X (d + 1) T _ M) (qv_R hRm (by omega) (by decide)) ⟨Nat.zero_le _, Nat.zero_le _⟩ mw_X9_isWord lk_RX9_194 st_X9_isWord pd_X9_isWord rfl (Nat.le_of_ble_eq_true rfl) dX9_pull_1) (fun v1 => ?_)
  refine qv_if_ne (pc := 4) (tgt := 9) g dX9_pull_4 (by decide) ?_ ?_
  · refine qv_aload_n (pc := 9) g dX9_pull_9 rfl rfl ?_
    have h1 : qv_is _ T 6 2 (qv_rf T t 9) := ht.to 9 (by decide) (by decide) rfl
    refine qv_getr (pc := 10) g fw_RX9_70 ht (by decide) (by decide) rfl dX9_pull_10 ?_
    refine qv_aload_n (pc := 13) g dX9_pull_13 rfl rfl ?_
    have h2 : qv_is _ T 0 3 (qv_rf T t 0) := ht.to 0 (by decide) (by decide) rfl
    refine qv_getr (pc := 14) g fw_RX9_12 ht (by decide) (by decide) rfl dX9_pull_14 ?_
    have h3 : qv_is _ T 36 3 (qv_rf T (qv_rf T t 0) 1) := h2.to 1 (by decide) (by decide) rfl
    refine qv_getr (pc := 17) g fw_RX9_197 h2 (by decide) (by decide) rfl dX9_pull_17 ?_
    refine qv_iload_n (pc := 20) g dX9_pull_20 rfl rfl ?_
    refine qv_aald (pc := 21) g (by decide) h3 (fun _ _ => ⟨_, rfl⟩) dX9_pull_21 (fun z2 => ?_)
    have h4 : qv_is _ T 6 2 (qv_rf T (qv_rf T (qv_rf T t 0) 1) p1.toNatClampNeg) := h3.to _ (by decide) (qv_inb_lt z2) rfl
    refine qv_aV (qv_cv (pc := 22) g (c_X6_makeCopy (gl G) X (d + 2) T _ _ M h1 h4) (qv_R hRm (by omega) (by decide)) ⟨Nat.zero_le _, Nat.zero_le _⟩ mw_X6_makeCopy lk_RX9_201 im_X6_makeCopy se_X6_makeCopy (by decide) rfl h1 pd_X6_makeCopy rfl (Nat.le_of_ble_eq_true rfl) dX9_pull_22) (fun M3 => ?_)
    refine qv_aload_n (pc := 25) g dX9_pull_25 rfl rfl ?_
    refine qv_getr (pc := 26) g fw_RX9_70 ht (by decide) (by decide) rfl dX9_pull_26 ?_
    refine qv_aload_n (pc := 29) g dX9_pull_29 rfl rfl ?_
    refine qv_getr (pc := 30) g fw_RX9_70 ht (by decide) (by decide) rfl dX9_pull_30 ?_
    refine qv_gets (pc := 33) g fw_RX9_210 h1 (by decide) (by decide) rfl dX9_pull_33 (fun v4 => ?_)
    refine qv_iconst (v := 1) (pc := 36) g dX9_pull_36 (by decide) ?_
    refine qv_isub (pc := 37) g dX9_pull_37 ?_
    refine qv_aI rfl (qv_cv (pc := 38) g (c_X6_at (gl G) X (d + 1) T _ _ M3 h1) (qv_R hRm (by omega) (by decide)) ⟨Nat.zero_le _, Nat.zero_le _⟩ mw_X6_at lk_RX9_213 im_X6_at se_X6_at (by decide) rfl h1 pd_X6_at rfl (Nat.le_of_ble_eq_true rfl) dX9_pull_38) (fun v5 => ?_)
    refine qv_istore_n (pc := 41) (lv1 := [(2, .int v5), (0, .ref (X.2.2.2 + t)), (1, .int p1)]) g dX9_pull_41 rfl (by decide) rfl ?_
    refine qv_iload_n (pc := 42) g dX9_pull_42 rfl rfl ?_
    refine qv_if_ge (pc := 43) (tgt := 49) g dX9_pull_43 (by decide) ?_ ?_
    · refine qv_aload_n (pc := 49) g dX9_pull_49 rfl rfl ?_
      refine qv_getr (pc := 50) g fw_RX9_70 ht (by decide) (by decide) rfl dX9_pull_50 ?_
      refine qv_aload_n (pc := 53) g dX9_pull_53 rfl rfl ?_
      refine qv_getr (pc := 54) g fw_RX9_70 ht (by decide) (by decide) rfl dX9_pull_54 ?_
      refine qv_gets (pc := 57) g fw_RX9_210 h1 (by decide) (by decide) rfl dX9_pull_57 (fun v6 => ?_)
      refine qv_iconst (v := 1) (pc := 60) g dX9_pull_60 (by decide) ?_
      refine qv_isub (pc := 61) g dX9_pull_61 ?_
      refine qv_iconst (v := 1) (pc := 62) g dX9_pull_62 (by decide) ?_
      refine qv_aV (qv_cv (pc := 63) g (c_X6_cut (gl G) X (d + 2) T _ _ _ M3 h1) (qv_R hRm (by omega) (by decide)) ⟨Nat.zero_le _, Nat.zero_le _⟩ mw_X6_cut lk_RX9_216 im_X6_cut se_X6_cut (by decide) rfl h1 pd_X6_cut rfl (Nat.le_of_ble_eq_true rfl) dX9_pull_63) (fun M7 => ?_)
      refine qv_aload_n (pc := 66) g dX9_pull_66 rfl rfl ?_
      refine qv_iload_n (pc := 67) g dX9_pull_67 rfl rfl ?_
      refine qv_aIM (qv_cv (pc := 68) g (c_X9_settleWord (gl G) X d T _ _ M7 ht) (qv_R hRm (by omega) (by decide)) ⟨Nat.zero_le _, Nat.zero_le _⟩ mw_X9_settleWord lk_RX9_207 im_X9_settleWord se_X9_settleWord (by decide) rfl ht pd_X9_settleWord rfl (Nat.le_of_ble_eq_true rfl) dX9_pull_68) (fun v8 M9 => ?_)
      refine qv_pop (pc := 71) g dX9_pull_71 rfl ?_
      refine qv_iload_n (pc := 72) g dX9_pull_72 rfl rfl ?_
      exact qv_iret (pc := 73) g hr rfl dX9_pull_73
    · refine qv_bipush (v := (-2)) (pc := 46) g dX9_pull_46 (by decide) ?_
      exact qv_iret (pc := 48) g hr rfl dX9_pull_48
  · refine qv_iconst (v := (-1)) (pc := 7) g dX9_pull_7 (by decide) ?_
    exact qv_iret (pc := 8) g hr rfl dX9_pull_8

set_option maxHeartbeats 4000000 in
set_option maxRecDepth 100000 in
theorem c_X6_costBy (l : Launch) (X : qv_X) (d : Nat) (T : List qv_Ent) (t : Nat) (t1 : Nat) (M : qv_Mem) {nt : Nat} (ht : qv_is (nt + 1) T 6 2 t) {nt1 : Nat} (ht1 : qv_is (nt1 + 0) T 20 7 t1) : qv_Ok l X yX6_costBy cX6_costBy 4 (some .int) (d) T M [.ref (X.2.2.2 + t), .ref (X.2.2.2 + t1)] (qv_eI M) (f_X6_costBy T t t1 M) := by
  refine qv_mk (lv := [(0, .ref (X.2.2.2 + t)), (1, .ref (X.2.2.2 + t1))]) (by decide) (Nat.le_of_ble_eq_true rfl) rfl (fun G hG hRm g hr => ?_)
  have g : qv_ok G X cX6_costBy RX6 4 := g
  unfold f_X6_costBy
  refine qv_iconst (v := 0) (pc := 0) g dX6_costBy_0 (by decide) ?_
  refine qv_istore_n (pc := 1) (lv1 := [(2, .int 0), (0, .ref (X.2.2.2 + t)), (1, .ref (X.2.2.2 + t1))]) g dX6_costBy_1 rfl (by decide) rfl ?_
  refine qv_iconst (v := 0) (pc := 2) g dX6_costBy_2 (by decide) ?_
  refine qv_istore_n (pc := 3) (lv1 := [(3, .int 0), (2, .int 0), (0, .ref (X.2.2.2 + t)), (1, .ref (X.2.2.2 + t1))]) g dX6_costBy_3 rfl (by decide) rfl ?_
  refine qv_join (fun (k2 : Int32 → Option Int32) => ∀ (v1 : Int32), qv_V G X 4 (qv_QM G X T (qv_eI M) (0, 0)) T (0, 0) 29 [(2, .int v1)] [] M (k2 v1)) (fun v1 => ?_) (fun k2 qk2 => ?_)
  · refine qv_iload_n (pc := 29) g dX6_costBy_29 rfl rfl ?_
    exact qv_iret (pc := 30) g hr rfl dX6_costBy_30
  refine qv_lv [2, 3, 1, 0] rfl ?_
  exact qv_L2 (Vh := fun (v3 : Int32) (v4 : Int32) o => qv_V G X 4 (qv_QM G X T (qv_eI M) (0, 0)) T (0, 0) 4 [(0, .ref (X.2.2.2 + t)), (1, .ref (X.2.2.2 + t1)), (2, .int v3), (3, .int v4)] [] M o) (fun _ _ => qv_none) (fun r5 qr5 v3 v4 => by
    unfold b_X6_costBy_4
    refine qv_iload_n (pc := 4) g dX6_costBy_4 rfl rfl ?_
    refine qv_aload_n (pc := 5) g dX6_costBy_5 rfl rfl ?_
    refine qv_gets (pc := 6) g fw_RX6_15 ht (by decide) (by decide) rfl dX6_costBy_6 (fun v6 => ?_)
    refine qv_icmp_ge (pc := 9) (tgt := 29) g dX6_costBy_9 (by decide) ?_ ?_
    · refine qv_lv [2] rfl ?_
      exact qk2 _
    · refine qv_iload_n (pc := 12) g dX6_costBy_12 rfl rfl ?_
      refine qv_aload_n (pc := 13) g dX6_costBy_13 rfl rfl ?_
      refine qv_aload_n (pc := 14) g dX6_costBy_14 rfl rfl ?_
      have h1 : qv_is _ T 20 60 (qv_rf T t 0) := ht.to 0 (by decide) (by decide) rfl
      refine qv_getr (pc := 15) g fw_RX6_9 ht (by decide) (by decide) rfl dX6_costBy_15 ?_
      refine qv_iload_n (pc := 18) g dX6_costBy_18 rfl rfl ?_
      refine qv_iald (pc := 19) g h1 dX6_costBy_19 (fun v7 => ?_)
      refine qv_iald (pc := 20) g ht1 dX6_costBy_20 (fun v8 => ?_)
      refine qv_iadd (pc := 21) g dX6_costBy_21 ?_
      refine qv_istore_n (pc := 22) (lv1 := [(2, .int (v3 + v8)), (0, .ref (X.2.2.2 + t)), (1, .ref (X.2.2.2 + t1)), (3, .int v4)]) g dX6_costBy_22 rfl (by decide) rfl ?_
      refine qv_iinc (pc := 23) (v := (v4 + 1)) (lv1 := [(3, .int (v4 + 1)), (2, .int (v3 + v8)), (0, .ref (X.2.2.2 + t)), (1, .ref (X.2.2.2 + t1))]) g dX6_costBy_23 rfl rfl (by decide) rfl ?_
      refine qv_goto (pc := 26) (tgt := 4) g dX6_costBy_26 (by decide) ?_
      refine qv_lv [2, 3, 1, 0] rfl ?_
      exact qr5 _ _) _ _ _

set_option maxHeartbeats 4000000 in
set_option maxRecDepth 100000 in
theorem c_X9_word (l : Launch) (X : qv_X) (d : Nat) (T : List qv_Ent) (t : Nat) (p1 : Int32) (p2 : Int32) (M : qv_Mem) {nt : Nat} (ht : qv_is (nt + 4) T 9 14 t) : qv_Ok l X yX9_word cX9_word 3 (some .int) (d + 2) T M [.ref (X.2.2.2 + t), .int p1, .int p2] (qv_eI M) (f_X9_word T t p1 p2 M) := by
  refine qv_mk (lv := [(0, .ref (X.2.2.2 + t)), (1, .int p1), (2, .int p2)]) (by decide) (Nat.le_of_ble_eq_true rfl) rfl (fun G hG hRm g hr => ?_)
  have g : qv_ok G X cX9_word RX9 3 := g
  unfold f_X9_word
  refine qv_iload_n (pc := 0) g dX9_word_0 rfl rfl ?_
  refine qv_aI rfl (qv_cs (pc := 1) g (c_X9_isWord (gl G) X d T _ M) (qv_R hRm (by omega) (by decide)) ⟨Nat.zero_le _, Nat.zero_le _⟩ mw_X9_isWord lk_RX9_194 st_X9_isWord pd_X9_isWord rfl (Nat.le_of_ble_eq_true rfl) dX9_word_1) (fun v1 => ?_)
  refine qv_if_eq (pc := 4) (tgt := 13) g dX9_word_4 (by decide) ?_ ?_
  · refine qv_iconst (v := (-1)) (pc := 13) g dX9_word_13 (by decide) ?_
    exact qv_iret (pc := 14) g hr rfl dX9_word_14
  · refine qv_iload_n (pc := 7) g dX9_word_7 rfl rfl ?_
    refine qv_bipush (v := (-2)) (pc := 8) g dX9_word_8 (by decide) ?_
    refine qv_icmp_ge (pc := 10) (tgt := 15) g dX9_word_10 (by decide) ?_ ?_
    · refine qv_iload_n (pc := 15) g dX9_word_15 rfl rfl ?_
      refine qv_bipush (v := (-2)) (pc := 16) g dX9_word_16 (by decide) ?_
      refine qv_icmp_ne (pc := 18) (tgt := 41) g dX9_word_18 (by decide) ?_ ?_
      · refine qv_iload_n (pc := 41) g dX9_word_41 rfl rfl ?_
        refine qv_iconst (v := (-1)) (pc := 42) g dX9_word_42 (by decide) ?_
        refine qv_icmp_ne (pc := 43) (tgt := 61) g dX9_word_43 (by decide) ?_ ?_
        · refine qv_aload_n (pc := 61) g dX9_word_61 rfl rfl ?_
          have h1 : qv_is _ T 0 3 (qv_rf T t 0) := ht.to 0 (by decide) (by decide) rfl
          refine qv_getr (pc := 62) g fw_RX9_12 ht (by decide) (by decide) rfl dX9_word_62 ?_
          have h2 : qv_is _ T 36 3 (qv_rf T (qv_rf T t 0) 1) := h1.to 1 (by decide) (by decide) rfl
          refine qv_getr (pc := 65) g fw_RX9_197 h1 (by decide) (by decide) rfl dX9_word_65 ?_
          refine qv_iload_n (pc := 68) g dX9_word_68 rfl rfl ?_
          refine qv_aald (pc := 69) g (by decide) h2 (fun _ _ => ⟨_, rfl⟩) dX9_word_69 (fun z2 => ?_)
          have h3 : qv_is _ T 6 2 (qv_rf T (qv_rf T (qv_rf T t 0) 1) p1.toNatClampNeg) := h2.to _ (by decide) (qv_inb_lt z2) rfl
          refine qv_iload_n (pc := 70) g dX9_word_70 rfl rfl ?_
          refine qv_aI rfl (qv_cv (pc := 71) g (c_X6_at (gl G) X d T _ _ M h3) (qv_R hRm (by omega) (by decide)) ⟨Nat.zero_le _, Nat.zero_le _⟩ mw_X6_at lk_RX9_213 im_X6_at se_X6_at (by decide) rfl h3 pd_X6_at rfl (Nat.le_of_ble_eq_true rfl) dX9_word_71) (fun v3 => ?_)
          exact qv_iret (pc := 74) g hr rfl dX9_word_74
        · refine qv_aload_n (pc := 46) g dX9_word_46 rfl rfl ?_
          have h4 : qv_is _ T 0 3 (qv_rf T t 0) := ht.to 0 (by decide) (by decide) rfl
          refine qv_getr (pc := 47) g fw_RX9_12 ht (by decide) (by decide) rfl dX9_word_47 ?_
          have h5 : qv_is _ T 36 3 (qv_rf T (qv_rf T t 0) 1) := h4.to 1 (by decide) (by decide) rfl
          refine qv_getr (pc := 50) g fw_RX9_197 h4 (by decide) (by decide) rfl dX9_word_50 ?_
          refine qv_iload_n (pc := 53) g dX9_word_53 rfl rfl ?_
          refine qv_aald (pc := 54) g (by decide) h5 (fun _ _ => ⟨_, rfl⟩) dX9_word_54 (fun z4 => ?_)
          have h6 : qv_is _ T 6 2 (qv_rf T (qv_rf T (qv_rf T t 0) 1) p1.toNatClampNeg) := h5.to _ (by decide) (qv_inb_lt z4) rfl
          refine qv_gets (pc := 55) g fw_RX9_210 h6 (by decide) (by decide) rfl dX9_word_55 (fun v5 => ?_)
          refine qv_goto (pc := 58) (tgt := 74) g dX9_word_58 (by decide) ?_
          exact qv_iret (pc := 74) g hr rfl dX9_word_74
      · refine qv_aload_n (pc := 21) g dX9_word_21 rfl rfl ?_
        have h7 : qv_is _ T 0 3 (qv_rf T t 0) := ht.to 0 (by decide) (by decide) rfl
        refine qv_getr (pc := 22) g fw_RX9_12 ht (by decide) (by decide) rfl dX9_word_22 ?_
        have h8 : qv_is _ T 36 3 (qv_rf T (qv_rf T t 0) 1) := h7.to 1 (by decide) (by decide) rfl
        refine qv_getr (pc := 25) g fw_RX9_197 h7 (by decide) (by decide) rfl dX9_word_25 ?_
        refine qv_iload_n (pc := 28) g dX9_word_28 rfl rfl ?_
        refine qv_aald (pc := 29) g (by decide) h8 (fun _ _ => ⟨_, rfl⟩) dX9_word_29 (fun z6 => ?_)
        have h9 : qv_is _ T 6 2 (qv_rf T (qv_rf T (qv_rf T t 0) 1) p1.toNatClampNeg) := h8.to _ (by decide) (qv_inb_lt z6) rfl
        refine qv_aload_n (pc := 30) g dX9_word_30 rfl rfl ?_
        refine qv_getr (pc := 31) g fw_RX9_12 ht (by decide) (by decide) rfl dX9_word_31 ?_
        have h10 : qv_is _ T 20 7 (qv_rf T (qv_rf T t 0) 2) := h7.to 2 (by decide) (by decide) rfl
        refine qv_getr (pc := 34) g fw_RX9_177 h7 (by decide) (by decide) rfl dX9_word_34 ?_
        refine qv_aI rfl (qv_cv (pc := 37) g (c_X6_costBy (gl G) X (d + 1) T _ _ M h9 h10) (qv_R hRm (by omega) (by decide)) ⟨Nat.zero_le _, Nat.zero_le _⟩ mw_X6_costBy lk_RX9_220 im_X6_costBy se_X6_costBy (by decide) rfl h9 pd_X6_costBy rfl (Nat.le_of_ble_eq_true rfl) dX9_word_37) (fun v7 => ?_)
        exact qv_iret (pc := 40) g hr rfl dX9_word_40
    · refine qv_iconst (v := (-1)) (pc := 13) g dX9_word_13 (by decide) ?_
      exact qv_iret (pc := 14) g hr rfl dX9_word_14

set_option maxHeartbeats 4000000 in
set_option maxRecDepth 100000 in
theorem c_X7_applyRow (l : Launch) (X : qv_X) (d : Nat) (T : List qv_Ent) (t : Nat) (t1 : Nat) (p2 : Int32) (p3 : Int32) (M : qv_Mem) {nt : Nat} (ht : qv_is (nt + 1) T 7 2 t) {nt1 : Nat} (ht1 : qv_is (nt1 + 1) T 6 2 t1) : qv_Ok l X yX7_applyRow cX7_applyRow 6 none (d + 3) T M [.ref (X.2.2.2 + t), .ref (X.2.2.2 + t1), .int p2, .int p3] qv_eV (f_X7_applyRow T t t1 p2 p3 M) := by
  refine qv_mk (lv := [(0, .ref (X.2.2.2 + t)), (1, .ref (X.2.2.2 + t1)), (2, .int p2), (3, .int p3)]) (by decide) (Nat.le_of_ble_eq_true rfl) rfl (fun G hG hRm g hr => ?_)
  have g : qv_ok G X cX7_applyRow RX7 6 := g
  unfold f_X7_applyRow
  refine qv_iload_n (pc := 0) g dX7_applyRow_0 rfl rfl ?_
  refine qv_aload_n (pc := 1) g dX7_applyRow_1 rfl rfl ?_
  refine qv_gets (pc := 2) g fw_RX7_39 ht1 (by decide) (by decide) rfl dX7_applyRow_2 (fun v1 => ?_)
  refine qv_mmin (pc := 5) g lk_RX7_44 st_math_min ini_math cd_math_min (Nat.le_of_ble_eq_true rfl) ⟨Nat.zero_le _, Nat.zero_le _⟩ dX7_applyRow_5 ?_
  refine qv_istore (pc := 8) (lv1 := [(4, .int (if v1 < p3 then v1 else p3)), (0, .ref (X.2.2.2 + t)), (1, .ref (X.2.2.2 + t1)), (2, .int p2), (3, .int p3)]) g dX7_applyRow_8 (by decide) rfl ?_
  refine qv_iload_n (pc := 10) g dX7_applyRow_10 rfl rfl ?_
  refine qv_iconst (v := 0) (pc := 11) g dX7_applyRow_11 (by decide) ?_
  refine qv_mmax (pc := 12) g lk_RX7_49 st_math_max ini_math cd_math_max (Nat.le_of_ble_eq_true rfl) ⟨Nat.zero_le _, Nat.zero_le _⟩ dX7_applyRow_12 ?_
  refine qv_istore (pc := 15) (lv1 := [(5, .int (if p2 < 0 then 0 else p2)), (4, .int (if v1 < p3 then v1 else p3)), (0, .ref (X.2.2.2 + t)), (1, .ref (X.2.2.2 + t1)), (2, .int p2), (3, .int p3)]) g dX7_applyRow_15 (by decide) rfl ?_
  refine qv_join (fun (k3 : qv_Mem → Option qv_Mem) => ∀ (M2 : qv_Mem), qv_V G X 6 (qv_QM G X T qv_eV (0, 0)) T (0, 0) 40 [] [] M2 (k3 M2)) (fun M2 => ?_) (fun k3 qk3 => ?_)
  · exact qv_vret (pc := 40) g hr rfl dX7_applyRow_40
  refine qv_lv [2, 3, 1, 0] rfl ?_
  exact qv_L2 (Vh := fun (v4 : Int32) (M5 : qv_Mem) o => qv_V G X 6 (qv_QM G X T qv_eV (0, 0)) T (0, 0) 17 [(0, .ref (X.2.2.2 + t)), (1, .ref (X.2.2.2 + t1)), (4, .int (if v1 < p3 then v1 else p3)), (5, .int v4)] [] M5 o) (fun _ _ => qv_none) (fun r6 qr6 v4 M5 => by
    unfold b_X7_applyRow_17
    refine qv_iload (pc := 17) g dX7_applyRow_17 rfl ?_
    refine qv_iload (pc := 19) g dX7_applyRow_19 rfl ?_
    refine qv_icmp_ge (pc := 21) (tgt := 40) g dX7_applyRow_21 (by decide) ?_ ?_
    · refine qv_lv [] rfl ?_
      exact qk3 _
    · refine qv_aload_n (pc := 24) g dX7_applyRow_24 rfl rfl ?_
      refine qv_aload_n (pc := 25) g dX7_applyRow_25 rfl rfl ?_
      refine qv_iload (pc := 26) g dX7_applyRow_26 rfl ?_
      refine qv_aI rfl (qv_cv (pc := 28) g (c_X6_at (gl G) X (d + 1) T _ _ M5 ht1) (qv_R hRm (by omega) (by decide)) ⟨Nat.zero_le _, Nat.zero_le _⟩ mw_X6_at lk_RX7_52 im_X6_at se_X6_at (by decide) rfl ht1 pd_X6_at rfl (Nat.le_of_ble_eq_true rfl) dX7_applyRow_28) (fun v7 => ?_)
      refine qv_aV (qv_cv (pc := 31) g (c_X7_applyBehind (gl G) X d T _ _ M5 ht) (qv_R hRm (by omega) (by decide)) ⟨Nat.zero_le _, Nat.zero_le _⟩ mw_X7_applyBehind lk_RX7_56 im_X7_applyBehind se_X7_applyBehind (by decide) rfl ht pd_X7_applyBehind rfl (Nat.le_of_ble_eq_true rfl) dX7_applyRow_31) (fun M8 => ?_)
      refine qv_iinc (pc := 34) (v := (v4 + 1)) (lv1 := [(5, .int (v4 + 1)), (0, .ref (X.2.2.2 + t)), (1, .ref (X.2.2.2 + t1)), (4, .int (if v1 < p3 then v1 else p3))]) g dX7_applyRow_34 rfl rfl (by decide) rfl ?_
      refine qv_goto (pc := 37) (tgt := 17) g dX7_applyRow_37 (by decide) ?_
      refine qv_lv [1, 2, 3, 0] rfl ?_
      exact qr6 _ _) _ _ _

set_option maxHeartbeats 4000000 in
set_option maxRecDepth 100000 in
theorem c_X9_value (l : Launch) (X : qv_X) (d : Nat) (T : List qv_Ent) (t : Nat) (p1 : Int32) (p2 : Int32) (M : qv_Mem) {nt : Nat} (ht : qv_is (nt + 4) T 9 14 t) : qv_Ok l X yX9_value cX9_value 3 (some .int) (d + 4) T M [.ref (X.2.2.2 + t), .int p1, .int p2] qv_eIM (f_X9_value T t p1 p2 M) := by
  refine qv_mk (lv := [(0, .ref (X.2.2.2 + t)), (1, .int p1), (2, .int p2)]) (by decide) (Nat.le_of_ble_eq_true rfl) rfl (fun G hG hRm g hr => ?_)
  have g : qv_ok G X cX9_value RX9 3 := g
  unfold f_X9_value
  refine qv_iload_n (pc := 0) g dX9_value_0 rfl rfl ?_
  refine qv_aI rfl (qv_cs (pc := 1) g (c_X9_isRegister (gl G) X (d + 2) T _ M) (qv_R hRm (by omega) (by decide)) ⟨Nat.zero_le _, Nat.zero_le _⟩ mw_X9_isRegister lk_RX9_90 st_X9_isRegister pd_X9_isRegister rfl (Nat.le_of_ble_eq_true rfl) dX9_value_1) (fun v1 => ?_)
  refine qv_if_eq (pc := 4) (tgt := 14) g dX9_value_4 (by decide) ?_ ?_
  · refine qv_iconst (v := (-1)) (pc := 14) g dX9_value_14 (by decide) ?_
    exact qv_iret (pc := 15) g hr rfl dX9_value_15
  · refine qv_iload_n (pc := 7) g dX9_value_7 rfl rfl ?_
    refine qv_aI rfl (qv_cs (pc := 8) g (c_X9_isWord (gl G) X (d + 2) T _ M) (qv_R hRm (by omega) (by decide)) ⟨Nat.zero_le _, Nat.zero_le _⟩ mw_X9_isWord lk_RX9_194 st_X9_isWord pd_X9_isWord rfl (Nat.le_of_ble_eq_true rfl) dX9_value_8) (fun v2 => ?_)
    refine qv_if_ne (pc := 11) (tgt := 16) g dX9_value_11 (by decide) ?_ ?_
    · refine qv_aload_n (pc := 16) g dX9_value_16 rfl rfl ?_
      have h1 : qv_is _ T 7 2 (qv_rf T t 10) := ht.to 10 (by decide) (by decide) rfl
      refine qv_getr (pc := 17) g fw_RX9_77 ht (by decide) (by decide) rfl dX9_value_17 ?_
      refine qv_aV (qv_cv (pc := 20) g (c_X7_makeUnit (gl G) X (d + 2) T _ M h1) (qv_R hRm (by omega) (by decide)) ⟨Nat.zero_le _, Nat.zero_le _⟩ mw_X7_makeUnit lk_RX9_102 im_X7_makeUnit se_X7_makeUnit (by decide) rfl h1 pd_X7_makeUnit rfl (Nat.le_of_ble_eq_true rfl) dX9_value_20) (fun M3 => ?_)
      refine qv_aload_n (pc := 23) g dX9_value_23 rfl rfl ?_
      refine qv_getr (pc := 24) g fw_RX9_77 ht (by decide) (by decide) rfl dX9_value_24 ?_
      refine qv_aload_n (pc := 27) g dX9_value_27 rfl rfl ?_
      have h2 : qv_is _ T 0 3 (qv_rf T t 0) := ht.to 0 (by decide) (by decide) rfl
      refine qv_getr (pc := 28) g fw_RX9_12 ht (by decide) (by decide) rfl dX9_value_28 ?_
      have h3 : qv_is _ T 36 3 (qv_rf T (qv_rf T t 0) 1) := h2.to 1 (by decide) (by decide) rfl
      refine qv_getr (pc := 31) g fw_RX9_197 h2 (by decide) (by decide) rfl dX9_value_31 ?_
      refine qv_iload_n (pc := 34) g dX9_value_34 rfl rfl ?_
      refine qv_aald (pc := 35) g (by decide) h3 (fun _ _ => ⟨_, rfl⟩) dX9_value_35 (fun z4 => ?_)
      have h4 : qv_is _ T 6 2 (qv_rf T (qv_rf T (qv_rf T t 0) 1) p2.toNatClampNeg) := h3.to _ (by decide) (qv_inb_lt z4) rfl
      refine qv_iconst (v := 0) (pc := 36) g dX9_value_36 (by decide) ?_
      refine qv_bipush (v := 60) (pc := 37) g dX9_value_37 (by decide) ?_
      refine qv_aV (qv_cv (pc := 39) g (c_X7_applyRow (gl G) X d T _ _ _ _ M3 h1 h4) (qv_R hRm (by omega) (by decide)) ⟨Nat.zero_le _, Nat.zero_le _⟩ mw_X7_applyRow lk_RX9_224 im_X7_applyRow se_X7_applyRow (by decide) rfl h1 pd_X7_applyRow rfl (Nat.le_of_ble_eq_true rfl) dX9_value_39) (fun M5 => ?_)
      refine qv_aload_n (pc := 42) g dX9_value_42 rfl rfl ?_
      refine qv_iload_n (pc := 43) g dX9_value_43 rfl rfl ?_
      refine qv_aIM (qv_cv (pc := 44) g (c_X9_settleRegister (gl G) X (d + 2) T _ _ M5 ht) (qv_R hRm (by omega) (by decide)) ⟨Nat.zero_le _, Nat.zero_le _⟩ mw_X9_settleRegister lk_RX9_116 im_X9_settleRegister se_X9_settleRegister (by decide) rfl ht pd_X9_settleRegister rfl (Nat.le_of_ble_eq_true rfl) dX9_value_44) (fun v6 M7 => ?_)
      exact qv_iret (pc := 47) g hr rfl dX9_value_47
    · refine qv_iconst (v := (-1)) (pc := 14) g dX9_value_14 (by decide) ?_
      exact qv_iret (pc := 15) g hr rfl dX9_value_15

set_option maxHeartbeats 4000000 in
set_option maxRecDepth 100000 in
theorem c_X6_goesOut (l : Launch) (X : qv_X) (d : Nat) (T : List qv_Ent) (p0 : Int32) (p1 : Int32) (M : qv_Mem)  : qv_Ok l X yX6_goesOut cX6_goesOut 3 (some .boolean) (d) T M [.int p0, .int p1] (qv_eI M) (f_X6_goesOut p0 p1) := by
  refine qv_mk (lv := [(0, .int p0), (1, .int p1)]) (by decide) (Nat.le_of_ble_eq_true rfl) rfl (fun G hG hRm g hr => ?_)
  have g : qv_ok G X cX6_goesOut RX6 3 := g
  unfold f_X6_goesOut
  refine qv_iload_n (pc := 0) g dX6_goesOut_0 rfl rfl ?_
  refine qv_iload_n (pc := 1) g dX6_goesOut_1 rfl rfl ?_
  refine qv_join (fun (k2 : Int32 → Option Int32) => ∀ (v1 : Int32), qv_V G X 3 (qv_QM G X T (qv_eI M) (0, 0)) T (0, 0) 24 [(0, .int p0), (1, .int p1)] [.int v1] M (k2 v1)) (fun v1 => ?_) (fun k2 qk2 => ?_)
  · refine qv_istore_n (pc := 24) (lv1 := [(2, .int v1), (0, .int p0), (1, .int p1)]) g dX6_goesOut_24 rfl (by decide) rfl ?_
    refine qv_iload_n (pc := 25) g dX6_goesOut_25 rfl rfl ?_
    refine qv_if_ne (pc := 26) (tgt := 51) g dX6_goesOut_26 (by decide) ?_ ?_
    · refine qv_iconst (v := 1) (pc := 51) g dX6_goesOut_51 (by decide) ?_
      refine qv_goto (pc := 52) (tgt := 56) g dX6_goesOut_52 (by decide) ?_
      exact qv_zret (pc := 56) g hr rfl rfl dX6_goesOut_56
    · refine qv_iload_n (pc := 29) g dX6_goesOut_29 rfl rfl ?_
      refine qv_iconst (v := 1) (pc := 30) g dX6_goesOut_30 (by decide) ?_
      refine qv_join (fun (k3 : Unit → Option Int32) => ∀ (_ : Unit), qv_V G X 3 (qv_QM G X T (qv_eI M) (0, 0)) T (0, 0) 40 [(0, .int p0), (1, .int p1)] [] M (k3 ())) (fun _ => ?_) (fun k3 qk3 => ?_)
      · refine qv_iload_n (pc := 40) g dX6_goesOut_40 rfl rfl ?_
        refine qv_bipush (v := 6) (pc := 41) g dX6_goesOut_41 (by decide) ?_
        refine qv_icmp_ne (pc := 43) (tgt := 55) g dX6_goesOut_43 (by decide) ?_ ?_
        · refine qv_iconst (v := 0) (pc := 55) g dX6_goesOut_55 (by decide) ?_
          exact qv_zret (pc := 56) g hr rfl rfl dX6_goesOut_56
        · refine qv_iload_n (pc := 46) g dX6_goesOut_46 rfl rfl ?_
          refine qv_iconst (v := 1) (pc := 47) g dX6_goesOut_47 (by decide) ?_
          refine qv_icmp_ne (pc := 48) (tgt := 55) g dX6_goesOut_48 (by decide) ?_ ?_
          · refine qv_iconst (v := 0) (pc := 55) g dX6_goesOut_55 (by decide) ?_
            exact qv_zret (pc := 56) g hr rfl rfl dX6_goesOut_56
          · refine qv_iconst (v := 1) (pc := 51) g dX6_goesOut_51 (by decide) ?_
            refine qv_goto (pc := 52) (tgt := 56) g dX6_goesOut_52 (by decide) ?_
            exact qv_zret (pc := 56) g hr rfl rfl dX6_goesOut_56
      refine qv_icmp_ne (pc := 31) (tgt := 40) g dX6_goesOut_31 (by decide) ?_ ?_
      · refine qv_lv [1, 2] rfl ?_
        exact qk3 ()
      · refine qv_iload_n (pc := 34) g dX6_goesOut_34 rfl rfl ?_
        refine qv_bipush (v := 6) (pc := 35) g dX6_goesOut_35 (by decide) ?_
        refine qv_icmp_eq (pc := 37) (tgt := 51) g dX6_goesOut_37 (by decide) ?_ ?_
        · refine qv_iconst (v := 1) (pc := 51) g dX6_goesOut_51 (by decide) ?_
          refine qv_goto (pc := 52) (tgt := 56) g dX6_goesOut_52 (by decide) ?_
          exact qv_zret (pc := 56) g hr rfl rfl dX6_goesOut_56
        · refine qv_lv [1, 2] rfl ?_
          exact qk3 ()
  refine qv_icmp_ne (pc := 2) (tgt := 23) g dX6_goesOut_2 (by decide) ?_ ?_
  · refine qv_iconst (v := 0) (pc := 23) g dX6_goesOut_23 (by decide) ?_
    exact qk2 _
  · refine qv_iload_n (pc := 5) g dX6_goesOut_5 rfl rfl ?_
    refine qv_if_eq (pc := 6) (tgt := 19) g dX6_goesOut_6 (by decide) ?_ ?_
    · refine qv_iconst (v := 1) (pc := 19) g dX6_goesOut_19 (by decide) ?_
      refine qv_goto (pc := 20) (tgt := 24) g dX6_goesOut_20 (by decide) ?_
      exact qk2 _
    · refine qv_iload_n (pc := 9) g dX6_goesOut_9 rfl rfl ?_
      refine qv_iconst (v := 3) (pc := 10) g dX6_goesOut_10 (by decide) ?_
      refine qv_icmp_eq (pc := 11) (tgt := 19) g dX6_goesOut_11 (by decide) ?_ ?_
      · refine qv_iconst (v := 1) (pc := 19) g dX6_goesOut_19 (by decide) ?_
        refine qv_goto (pc := 20) (tgt := 24) g dX6_goesOut_20 (by decide) ?_
        exact qk2 _
      · refine qv_iload_n (pc := 14) g dX6_goesOut_14 rfl rfl ?_
        refine qv_iconst (v := 4) (pc := 15) g dX6_goesOut_15 (by decide) ?_
        refine qv_icmp_ne (pc := 16) (tgt := 23) g dX6_goesOut_16 (by decide) ?_ ?_
        · refine qv_iconst (v := 0) (pc := 23) g dX6_goesOut_23 (by decide) ?_
          exact qk2 _
        · refine qv_iconst (v := 1) (pc := 19) g dX6_goesOut_19 (by decide) ?_
          refine qv_goto (pc := 20) (tgt := 24) g dX6_goesOut_20 (by decide) ?_
          exact qk2 _

set_option maxHeartbeats 4000000 in
set_option maxRecDepth 100000 in
theorem c_X6_standsEightTimes (l : Launch) (X : qv_X) (d : Nat) (T : List qv_Ent) (t : Nat) (p1 : Int32) (p2 : Int32) (M : qv_Mem) {nt : Nat} (ht : qv_is (nt + 1) T 6 2 t) : qv_Ok l X yX6_standsEightTimes cX6_standsEightTimes 4 (some .boolean) (d + 2) T M [.ref (X.2.2.2 + t), .int p1, .int p2] (qv_eI M) (f_X6_standsEightTimes T t p1 p2 M) := by
  refine qv_mk (lv := [(0, .ref (X.2.2.2 + t)), (1, .int p1), (2, .int p2)]) (by decide) (Nat.le_of_ble_eq_true rfl) rfl (fun G hG hRm g hr => ?_)
  have g : qv_ok G X cX6_standsEightTimes RX6 4 := g
  unfold f_X6_standsEightTimes
  refine qv_iconst (v := 0) (pc := 0) g dX6_standsEightTimes_0 (by decide) ?_
  refine qv_istore_n (pc := 1) (lv1 := [(3, .int 0), (0, .ref (X.2.2.2 + t)), (1, .int p1), (2, .int p2)]) g dX6_standsEightTimes_1 rfl (by decide) rfl ?_
  refine qv_join (fun (k1 : Unit → Option Int32) => ∀ (_ : Unit), qv_V G X 4 (qv_QM G X T (qv_eI M) (0, 0)) T (0, 0) 27 [] [] M (k1 ())) (fun _ => ?_) (fun k1 qk1 => ?_)
  · refine qv_iconst (v := 1) (pc := 27) g dX6_standsEightTimes_27 (by decide) ?_
    exact qv_zret (pc := 28) g hr rfl rfl dX6_standsEightTimes_28
  refine qv_lv [1, 2, 3, 0] rfl ?_
  exact qv_L1 (Vh := fun (v2 : Int32) o => qv_V G X 4 (qv_QM G X T (qv_eI M) (0, 0)) T (0, 0) 2 [(0, .ref (X.2.2.2 + t)), (1, .int p1), (2, .int p2), (3, .int v2)] [] M o) (fun _ => qv_none) (fun r3 qr3 v2 => by
    unfold b_X6_standsEightTimes_2
    refine qv_iload_n (pc := 2) g dX6_standsEightTimes_2 rfl rfl ?_
    refine qv_bipush (v := 8) (pc := 3) g dX6_standsEightTimes_3 (by decide) ?_
    refine qv_icmp_ge (pc := 5) (tgt := 27) g dX6_standsEightTimes_5 (by decide) ?_ ?_
    · refine qv_lv [] rfl ?_
      exact qk1 ()
    · refine qv_aload_n (pc := 8) g dX6_standsEightTimes_8 rfl rfl ?_
      refine qv_iload_n (pc := 9) g dX6_standsEightTimes_9 rfl rfl ?_
      refine qv_iload_n (pc := 10) g dX6_standsEightTimes_10 rfl rfl ?_
      refine qv_iadd (pc := 11) g dX6_standsEightTimes_11 ?_
      refine qv_aI rfl (qv_cv (pc := 12) g (c_X6_at (gl G) X d T _ _ M ht) (qv_R hRm (by omega) (by decide)) ⟨Nat.zero_le _, Nat.zero_le _⟩ mw_X6_at lk_RX6_37 im_X6_at se_X6_at (by decide) rfl ht pd_X6_at rfl (Nat.le_of_ble_eq_true rfl) dX6_standsEightTimes_12) (fun v4 => ?_)
      refine qv_iload_n (pc := 15) g dX6_standsEightTimes_15 rfl rfl ?_
      refine qv_icmp_eq (pc := 16) (tgt := 21) g dX6_standsEightTimes_16 (by decide) ?_ ?_
      · refine qv_iinc (pc := 21) (v := (v2 + 1)) (lv1 := [(3, .int (v2 + 1)), (0, .ref (X.2.2.2 + t)), (1, .int p1), (2, .int p2)]) g dX6_standsEightTimes_21 rfl rfl (by decide) rfl ?_
        refine qv_goto (pc := 24) (tgt := 2) g dX6_standsEightTimes_24 (by decide) ?_
        refine qv_lv [1, 2, 3, 0] rfl ?_
        exact qr3 _
      · refine qv_iconst (v := 0) (pc := 19) g dX6_standsEightTimes_19 (by decide) ?_
        exact qv_zret (pc := 20) g hr rfl rfl dX6_standsEightTimes_20) _ _

set_option maxHeartbeats 4000000 in
set_option maxRecDepth 100000 in
theorem c_X6_joinOf (l : Launch) (X : qv_X) (d : Nat) (T : List qv_Ent) (p0 : Int32) (p1 : Int32) (M : qv_Mem)  : qv_Ok l X yX6_joinOf cX6_joinOf 2 (some .int) (d) T M [.int p0, .int p1] (qv_eI M) (f_X6_joinOf p0 p1) := by
  refine qv_mk (lv := [(0, .int p0), (1, .int p1)]) (by decide) (Nat.le_of_ble_eq_true rfl) rfl (fun G hG hRm g hr => ?_)
  have g : qv_ok G X cX6_joinOf RX6 2 := g
  unfold f_X6_joinOf
  refine qv_iload_n (pc := 0) g dX6_joinOf_0 rfl rfl ?_
  refine qv_iconst (v := 1) (pc := 1) g dX6_joinOf_1 (by decide) ?_
  refine qv_join (fun (k1 : Unit → Option Int32) => ∀ (_ : Unit), qv_V G X 2 (qv_QM G X T (qv_eI M) (0, 0)) T (0, 0) 12 [(0, .int p0), (1, .int p1)] [] M (k1 ())) (fun _ => ?_) (fun k1 qk1 => ?_)
  · refine qv_iload_n (pc := 12) g dX6_joinOf_12 rfl rfl ?_
    refine qv_iconst (v := 2) (pc := 13) g dX6_joinOf_13 (by decide) ?_
    refine qv_join (fun (k2 : Unit → Option Int32) => ∀ (_ : Unit), qv_V G X 2 (qv_QM G X T (qv_eI M) (0, 0)) T (0, 0) 24 [(0, .int p0), (1, .int p1)] [] M (k2 ())) (fun _ => ?_) (fun k2 qk2 => ?_)
    · refine qv_iload_n (pc := 24) g dX6_joinOf_24 rfl rfl ?_
      refine qv_iconst (v := 2) (pc := 25) g dX6_joinOf_25 (by decide) ?_
      refine qv_join (fun (k3 : Unit → Option Int32) => ∀ (_ : Unit), qv_V G X 2 (qv_QM G X T (qv_eI M) (0, 0)) T (0, 0) 35 [(0, .int p0), (1, .int p1)] [] M (k3 ())) (fun _ => ?_) (fun k3 qk3 => ?_)
      · refine qv_iload_n (pc := 35) g dX6_joinOf_35 rfl rfl ?_
        refine qv_bipush (v := 6) (pc := 36) g dX6_joinOf_36 (by decide) ?_
        refine qv_icmp_ne (pc := 38) (tgt := 50) g dX6_joinOf_38 (by decide) ?_ ?_
        · refine qv_bipush (v := (-2)) (pc := 50) g dX6_joinOf_50 (by decide) ?_
          exact qv_iret (pc := 52) g hr rfl dX6_joinOf_52
        · refine qv_iload_n (pc := 41) g dX6_joinOf_41 rfl rfl ?_
          refine qv_iconst (v := 2) (pc := 42) g dX6_joinOf_42 (by decide) ?_
          refine qv_icmp_ne (pc := 43) (tgt := 50) g dX6_joinOf_43 (by decide) ?_ ?_
          · refine qv_bipush (v := (-2)) (pc := 50) g dX6_joinOf_50 (by decide) ?_
            exact qv_iret (pc := 52) g hr rfl dX6_joinOf_52
          · refine qv_iconst (v := 1) (pc := 46) g dX6_joinOf_46 (by decide) ?_
            refine qv_goto (pc := 47) (tgt := 52) g dX6_joinOf_47 (by decide) ?_
            exact qv_iret (pc := 52) g hr rfl dX6_joinOf_52
      refine qv_icmp_ne (pc := 26) (tgt := 35) g dX6_joinOf_26 (by decide) ?_ ?_
      · exact qk3 ()
      · refine qv_iload_n (pc := 29) g dX6_joinOf_29 rfl rfl ?_
        refine qv_bipush (v := 6) (pc := 30) g dX6_joinOf_30 (by decide) ?_
        refine qv_icmp_eq (pc := 32) (tgt := 46) g dX6_joinOf_32 (by decide) ?_ ?_
        · refine qv_iconst (v := 1) (pc := 46) g dX6_joinOf_46 (by decide) ?_
          refine qv_goto (pc := 47) (tgt := 52) g dX6_joinOf_47 (by decide) ?_
          exact qv_iret (pc := 52) g hr rfl dX6_joinOf_52
        · exact qk3 ()
    refine qv_icmp_ne (pc := 14) (tgt := 24) g dX6_joinOf_14 (by decide) ?_ ?_
    · exact qk2 ()
    · refine qv_iload_n (pc := 17) g dX6_joinOf_17 rfl rfl ?_
      refine qv_iconst (v := 2) (pc := 18) g dX6_joinOf_18 (by decide) ?_
      refine qv_icmp_ne (pc := 19) (tgt := 24) g dX6_joinOf_19 (by decide) ?_ ?_
      · exact qk2 ()
      · refine qv_iconst (v := 4) (pc := 22) g dX6_joinOf_22 (by decide) ?_
        exact qv_iret (pc := 23) g hr rfl dX6_joinOf_23
  refine qv_icmp_ne (pc := 2) (tgt := 12) g dX6_joinOf_2 (by decide) ?_ ?_
  · exact qk1 ()
  · refine qv_iload_n (pc := 5) g dX6_joinOf_5 rfl rfl ?_
    refine qv_iconst (v := 1) (pc := 6) g dX6_joinOf_6 (by decide) ?_
    refine qv_icmp_ne (pc := 7) (tgt := 12) g dX6_joinOf_7 (by decide) ?_ ?_
    · exact qk1 ()
    · refine qv_iconst (v := 2) (pc := 10) g dX6_joinOf_10 (by decide) ?_
      exact qv_iret (pc := 11) g hr rfl dX6_joinOf_11

set_option maxHeartbeats 4000000 in
set_option maxRecDepth 100000 in
theorem c_X6_shortenAt (l : Launch) (X : qv_X) (d : Nat) (T : List qv_Ent) (t : Nat) (p1 : Int32) (M : qv_Mem) {nt : Nat} (ht : qv_is (nt + 1) T 6 2 t) : qv_Ok l X yX6_shortenAt cX6_shortenAt 5 (some .boolean) (d + 3) T M [.ref (X.2.2.2 + t), .int p1] qv_eIM (f_X6_shortenAt T t p1 M) := by
  refine qv_mk (lv := [(0, .ref (X.2.2.2 + t)), (1, .int p1)]) (by decide) (Nat.le_of_ble_eq_true rfl) rfl (fun G hG hRm g hr => ?_)
  have g : qv_ok G X cX6_shortenAt RX6 5 := g
  unfold f_X6_shortenAt
  refine qv_aload_n (pc := 0) g dX6_shortenAt_0 rfl rfl ?_
  have h1 : qv_is _ T 20 60 (qv_rf T t 0) := ht.to 0 (by decide) (by decide) rfl
  refine qv_getr (pc := 1) g fw_RX6_9 ht (by decide) (by decide) rfl dX6_shortenAt_1 ?_
  refine qv_iload_n (pc := 4) g dX6_shortenAt_4 rfl rfl ?_
  refine qv_iald (pc := 5) g h1 dX6_shortenAt_5 (fun v1 => ?_)
  refine qv_istore_n (pc := 6) (lv1 := [(2, .int v1), (0, .ref (X.2.2.2 + t)), (1, .int p1)]) g dX6_shortenAt_6 rfl (by decide) rfl ?_
  refine qv_aload_n (pc := 7) g dX6_shortenAt_7 rfl rfl ?_
  refine qv_iload_n (pc := 8) g dX6_shortenAt_8 rfl rfl ?_
  refine qv_iconst (v := 1) (pc := 9) g dX6_shortenAt_9 (by decide) ?_
  refine qv_iadd (pc := 10) g dX6_shortenAt_10 ?_
  refine qv_aI rfl (qv_cv (pc := 11) g (c_X6_at (gl G) X (d + 1) T _ _ M ht) (qv_R hRm (by omega) (by decide)) ⟨Nat.zero_le _, Nat.zero_le _⟩ mw_X6_at lk_RX6_37 im_X6_at se_X6_at (by decide) rfl ht pd_X6_at rfl (Nat.le_of_ble_eq_true rfl) dX6_shortenAt_11) (fun v2 => ?_)
  refine qv_istore_n (pc := 14) (lv1 := [(3, .int v2), (2, .int v1), (0, .ref (X.2.2.2 + t)), (1, .int p1)]) g dX6_shortenAt_14 rfl (by decide) rfl ?_
  refine qv_iload_n (pc := 15) g dX6_shortenAt_15 rfl rfl ?_
  refine qv_iload_n (pc := 16) g dX6_shortenAt_16 rfl rfl ?_
  refine qv_aI rfl (qv_cs (pc := 17) g (c_X6_goesOut (gl G) X (d + 2) T _ _ M) (qv_R hRm (by omega) (by decide)) ⟨Nat.zero_le _, Nat.zero_le _⟩ mw_X6_goesOut lk_RX6_41 st_X6_goesOut pd_X6_goesOut rfl (Nat.le_of_ble_eq_true rfl) dX6_shortenAt_17) (fun v3 => ?_)
  refine qv_if_eq (pc := 20) (tgt := 31) g dX6_shortenAt_20 (by decide) ?_ ?_
  · refine qv_aload_n (pc := 31) g dX6_shortenAt_31 rfl rfl ?_
    refine qv_iconst (v := 5) (pc := 32) g dX6_shortenAt_32 (by decide) ?_
    refine qv_iload_n (pc := 33) g dX6_shortenAt_33 rfl rfl ?_
    refine qv_aI rfl (qv_cv (pc := 34) g (c_X6_standsEightTimes (gl G) X d T _ _ _ M ht) (qv_R hRm (by omega) (by decide)) ⟨Nat.zero_le _, Nat.zero_le _⟩ mw_X6_standsEightTimes lk_RX6_48 im_X6_standsEightTimes se_X6_standsEightTimes (by decide) rfl ht pd_X6_standsEightTimes rfl (Nat.le_of_ble_eq_true rfl) dX6_shortenAt_34) (fun v4 => ?_)
    refine qv_if_eq (pc := 37) (tgt := 49) g dX6_shortenAt_37 (by decide) ?_ ?_
    · refine qv_iload_n (pc := 49) g dX6_shortenAt_49 rfl rfl ?_
      refine qv_bipush (v := 6) (pc := 50) g dX6_shortenAt_50 (by decide) ?_
      refine qv_join (fun (k5 : Unit → Option (Int32 × qv_Mem)) => ∀ (_ : Unit), qv_V G X 5 (qv_QM G X T qv_eIM (0, 0)) T (0, 0) 79 [(0, .ref (X.2.2.2 + t)), (1, .int p1), (2, .int v1), (3, .int v2)] [] M (k5 ())) (fun _ => ?_) (fun k5 qk5 => ?_)
      · refine qv_iload_n (pc := 79) g dX6_shortenAt_79 rfl rfl ?_
        refine qv_iload_n (pc := 80) g dX6_shortenAt_80 rfl rfl ?_
        refine qv_aI rfl (qv_cs (pc := 81) g (c_X6_joinOf (gl G) X (d + 2) T _ _ M) (qv_R hRm (by omega) (by decide)) ⟨Nat.zero_le _, Nat.zero_le _⟩ mw_X6_joinOf lk_RX6_51 st_X6_joinOf pd_X6_joinOf rfl (Nat.le_of_ble_eq_true rfl) dX6_shortenAt_81) (fun v6 => ?_)
        refine qv_istore (pc := 84) (lv1 := [(4, .int v6), (0, .ref (X.2.2.2 + t)), (1, .int p1), (2, .int v1), (3, .int v2)]) g dX6_shortenAt_84 (by decide) rfl ?_
        refine qv_iload (pc := 86) g dX6_shortenAt_86 rfl ?_
        refine qv_if_ge (pc := 88) (tgt := 93) g dX6_shortenAt_88 (by decide) ?_ ?_
        · refine qv_aload_n (pc := 93) g dX6_shortenAt_93 rfl rfl ?_
          refine qv_getr (pc := 94) g fw_RX6_9 ht (by decide) (by decide) rfl dX6_shortenAt_94 ?_
          refine qv_iload_n (pc := 97) g dX6_shortenAt_97 rfl rfl ?_
          refine qv_iload (pc := 98) g dX6_shortenAt_98 rfl ?_
          refine qv_iast (pc := 100) g h1 dX6_shortenAt_100 (fun M7 => ?_)
          refine qv_aload_n (pc := 101) g dX6_shortenAt_101 rfl rfl ?_
          refine qv_iload_n (pc := 102) g dX6_shortenAt_102 rfl rfl ?_
          refine qv_iconst (v := 1) (pc := 103) g dX6_shortenAt_103 (by decide) ?_
          refine qv_iadd (pc := 104) g dX6_shortenAt_104 ?_
          refine qv_iconst (v := 1) (pc := 105) g dX6_shortenAt_105 (by decide) ?_
          refine qv_aV (qv_cv (pc := 106) g (c_X6_cut (gl G) X (d + 2) T _ _ _ M7 ht) (qv_R hRm (by omega) (by decide)) ⟨Nat.zero_le _, Nat.zero_le _⟩ mw_X6_cut lk_RX6_44 im_X6_cut se_X6_cut (by decide) rfl ht pd_X6_cut rfl (Nat.le_of_ble_eq_true rfl) dX6_shortenAt_106) (fun M8 => ?_)
          refine qv_iconst (v := 1) (pc := 109) g dX6_shortenAt_109 (by decide) ?_
          exact qv_zret (pc := 110) g hr rfl rfl dX6_shortenAt_110
        · refine qv_iconst (v := 0) (pc := 91) g dX6_shortenAt_91 (by decide) ?_
          exact qv_zret (pc := 92) g hr rfl rfl dX6_shortenAt_92
      refine qv_icmp_ne (pc := 52) (tgt := 79) g dX6_shortenAt_52 (by decide) ?_ ?_
      · refine qv_lv [2, 3, 1, 0] rfl ?_
        exact qk5 ()
      · refine qv_iload_n (pc := 55) g dX6_shortenAt_55 rfl rfl ?_
        refine qv_bipush (v := 6) (pc := 56) g dX6_shortenAt_56 (by decide) ?_
        refine qv_icmp_ne (pc := 58) (tgt := 79) g dX6_shortenAt_58 (by decide) ?_ ?_
        · refine qv_lv [2, 3, 1, 0] rfl ?_
          exact qk5 ()
        · refine qv_aload_n (pc := 61) g dX6_shortenAt_61 rfl rfl ?_
          refine qv_getr (pc := 62) g fw_RX6_9 ht (by decide) (by decide) rfl dX6_shortenAt_62 ?_
          refine qv_iload_n (pc := 65) g dX6_shortenAt_65 rfl rfl ?_
          refine qv_iconst (v := 2) (pc := 66) g dX6_shortenAt_66 (by decide) ?_
          refine qv_iast (pc := 67) g h1 dX6_shortenAt_67 (fun M9 => ?_)
          refine qv_aload_n (pc := 68) g dX6_shortenAt_68 rfl rfl ?_
          refine qv_getr (pc := 69) g fw_RX6_9 ht (by decide) (by decide) rfl dX6_shortenAt_69 ?_
          refine qv_iload_n (pc := 72) g dX6_shortenAt_72 rfl rfl ?_
          refine qv_iconst (v := 1) (pc := 73) g dX6_shortenAt_73 (by decide) ?_
          refine qv_iadd (pc := 74) g dX6_shortenAt_74 ?_
          refine qv_iconst (v := 4) (pc := 75) g dX6_shortenAt_75 (by decide) ?_
          refine qv_iast (pc := 76) g h1 dX6_shortenAt_76 (fun M10 => ?_)
          refine qv_iconst (v := 1) (pc := 77) g dX6_shortenAt_77 (by decide) ?_
          exact qv_zret (pc := 78) g hr rfl rfl dX6_shortenAt_78
    · refine qv_aload_n (pc := 40) g dX6_shortenAt_40 rfl rfl ?_
      refine qv_iload_n (pc := 41) g dX6_shortenAt_41 rfl rfl ?_
      refine qv_bipush (v := 8) (pc := 42) g dX6_shortenAt_42 (by decide) ?_
      refine qv_aV (qv_cv (pc := 44) g (c_X6_cut (gl G) X (d + 2) T _ _ _ M ht) (qv_R hRm (by omega) (by decide)) ⟨Nat.zero_le _, Nat.zero_le _⟩ mw_X6_cut lk_RX6_44 im_X6_cut se_X6_cut (by decide) rfl ht pd_X6_cut rfl (Nat.le_of_ble_eq_true rfl) dX6_shortenAt_44) (fun M11 => ?_)
      refine qv_iconst (v := 1) (pc := 47) g dX6_shortenAt_47 (by decide) ?_
      exact qv_zret (pc := 48) g hr rfl rfl dX6_shortenAt_48
  · refine qv_aload_n (pc := 23) g dX6_shortenAt_23 rfl rfl ?_
    refine qv_iload_n (pc := 24) g dX6_shortenAt_24 rfl rfl ?_
    refine qv_iconst (v := 2) (pc := 25) g dX6_shortenAt_25 (by decide) ?_
    refine qv_aV (qv_cv (pc := 26) g (c_X6_cut (gl G) X (d + 2) T _ _ _ M ht) (qv_R hRm (by omega) (by decide)) ⟨Nat.zero_le _, Nat.zero_le _⟩ mw_X6_cut lk_RX6_44 im_X6_cut se_X6_cut (by decide) rfl ht pd_X6_cut rfl (Nat.le_of_ble_eq_true rfl) dX6_shortenAt_26) (fun M12 => ?_)
    refine qv_iconst (v := 1) (pc := 29) g dX6_shortenAt_29 (by decide) ?_
    exact qv_zret (pc := 30) g hr rfl rfl dX6_shortenAt_30

set_option maxHeartbeats 4000000 in
set_option maxRecDepth 100000 in
theorem c_X6_shortenOnce (l : Launch) (X : qv_X) (d : Nat) (T : List qv_Ent) (t : Nat) (M : qv_Mem) {nt : Nat} (ht : qv_is (nt + 1) T 6 2 t) : qv_Ok l X yX6_shortenOnce cX6_shortenOnce 2 (some .boolean) (d + 4) T M [.ref (X.2.2.2 + t)] qv_eIM (f_X6_shortenOnce T t M) := by
  refine qv_mk (lv := [(0, .ref (X.2.2.2 + t))]) (by decide) (Nat.le_of_ble_eq_true rfl) rfl (fun G hG hRm g hr => ?_)
  have g : qv_ok G X cX6_shortenOnce RX6 2 := g
  unfold f_X6_shortenOnce
  refine qv_iconst (v := 0) (pc := 0) g dX6_shortenOnce_0 (by decide) ?_
  refine qv_istore_n (pc := 1) (lv1 := [(1, .int 0), (0, .ref (X.2.2.2 + t))]) g dX6_shortenOnce_1 rfl (by decide) rfl ?_
  refine qv_join (fun (k2 : qv_Mem → Option (Int32 × qv_Mem)) => ∀ (M1 : qv_Mem), qv_V G X 2 (qv_QM G X T qv_eIM (0, 0)) T (0, 0) 26 [] [] M1 (k2 M1)) (fun M1 => ?_) (fun k2 qk2 => ?_)
  · refine qv_iconst (v := 0) (pc := 26) g dX6_shortenOnce_26 (by decide) ?_
    exact qv_zret (pc := 27) g hr rfl rfl dX6_shortenOnce_27
  refine qv_lv [1, 0] rfl ?_
  exact qv_L2 (Vh := fun (v3 : Int32) (M4 : qv_Mem) o => qv_V G X 2 (qv_QM G X T qv_eIM (0, 0)) T (0, 0) 2 [(0, .ref (X.2.2.2 + t)), (1, .int v3)] [] M4 o) (fun _ _ => qv_none) (fun r5 qr5 v3 M4 => by
    unfold b_X6_shortenOnce_2
    refine qv_iload_n (pc := 2) g dX6_shortenOnce_2 rfl rfl ?_
    refine qv_aload_n (pc := 3) g dX6_shortenOnce_3 rfl rfl ?_
    refine qv_gets (pc := 4) g fw_RX6_15 ht (by decide) (by decide) rfl dX6_shortenOnce_4 (fun v6 => ?_)
    refine qv_icmp_ge (pc := 7) (tgt := 26) g dX6_shortenOnce_7 (by decide) ?_ ?_
    · refine qv_lv [] rfl ?_
      exact qk2 _
    · refine qv_aload_n (pc := 10) g dX6_shortenOnce_10 rfl rfl ?_
      refine qv_iload_n (pc := 11) g dX6_shortenOnce_11 rfl rfl ?_
      refine qv_aIM (qv_cv (pc := 12) g (c_X6_shortenAt (gl G) X d T _ _ M4 ht) (qv_R hRm (by omega) (by decide)) ⟨Nat.zero_le _, Nat.zero_le _⟩ mw_X6_shortenAt lk_RX6_33 im_X6_shortenAt se_X6_shortenAt (by decide) rfl ht pd_X6_shortenAt rfl (Nat.le_of_ble_eq_true rfl) dX6_shortenOnce_12) (fun v7 M8 => ?_)
      refine qv_if_eq (pc := 15) (tgt := 20) g dX6_shortenOnce_15 (by decide) ?_ ?_
      · refine qv_iinc (pc := 20) (v := (v3 + 1)) (lv1 := [(1, .int (v3 + 1)), (0, .ref (X.2.2.2 + t))]) g dX6_shortenOnce_20 rfl rfl (by decide) rfl ?_
        refine qv_goto (pc := 23) (tgt := 2) g dX6_shortenOnce_23 (by decide) ?_
        refine qv_lv [1, 0] rfl ?_
        exact qr5 _ _
      · refine qv_iconst (v := 1) (pc := 18) g dX6_shortenOnce_18 (by decide) ?_
        exact qv_zret (pc := 19) g hr rfl rfl dX6_shortenOnce_19) _ _ _

set_option maxHeartbeats 4000000 in
set_option maxRecDepth 100000 in
theorem c_X6_shorten (l : Launch) (X : qv_X) (d : Nat) (T : List qv_Ent) (t : Nat) (M : qv_Mem) {nt : Nat} (ht : qv_is (nt + 1) T 6 2 t) : qv_Ok l X yX6_shorten cX6_shorten 3 none (d + 5) T M [.ref (X.2.2.2 + t)] qv_eV (f_X6_shorten T t M) := by
  refine qv_mk (lv := [(0, .ref (X.2.2.2 + t))]) (by decide) (Nat.le_of_ble_eq_true rfl) rfl (fun G hG hRm g hr => ?_)
  have g : qv_ok G X cX6_shorten RX6 3 := g
  unfold f_X6_shorten
  refine qv_iconst (v := 1) (pc := 0) g dX6_shorten_0 (by decide) ?_
  refine qv_istore_n (pc := 1) (lv1 := [(1, .int 1), (0, .ref (X.2.2.2 + t))]) g dX6_shorten_1 rfl (by decide) rfl ?_
  refine qv_iconst (v := 0) (pc := 2) g dX6_shorten_2 (by decide) ?_
  refine qv_istore_n (pc := 3) (lv1 := [(2, .int 0), (1, .int 1), (0, .ref (X.2.2.2 + t))]) g dX6_shorten_3 rfl (by decide) rfl ?_
  refine qv_join (fun (k2 : qv_Mem → Option qv_Mem) => ∀ (M1 : qv_Mem), qv_V G X 3 (qv_QM G X T qv_eV (0, 0)) T (0, 0) 25 [] [] M1 (k2 M1)) (fun M1 => ?_) (fun k2 qk2 => ?_)
  · exact qv_vret (pc := 25) g hr rfl dX6_shorten_25
  refine qv_lv [2, 1, 0] rfl ?_
  exact qv_L3 (Vh := fun (v3 : Int32) (v4 : Int32) (M5 : qv_Mem) o => qv_V G X 3 (qv_QM G X T qv_eV (0, 0)) T (0, 0) 4 [(0, .ref (X.2.2.2 + t)), (1, .int v3), (2, .int v4)] [] M5 o) (fun _ _ _ => qv_none) (fun r6 qr6 v3 v4 M5 => by
    unfold b_X6_shorten_4
    refine qv_iload_n (pc := 4) g dX6_shorten_4 rfl rfl ?_
    refine qv_bipush (v := 120) (pc := 5) g dX6_shorten_5 (by decide) ?_
    refine qv_icmp_ge (pc := 7) (tgt := 25) g dX6_shorten_7 (by decide) ?_ ?_
    · refine qv_lv [] rfl ?_
      exact qk2 _
    · refine qv_iload_n (pc := 10) g dX6_shorten_10 rfl rfl ?_
      refine qv_if_eq (pc := 11) (tgt := 25) g dX6_shorten_11 (by decide) ?_ ?_
      · refine qv_lv [] rfl ?_
        exact qk2 _
      · refine qv_aload_n (pc := 14) g dX6_shorten_14 rfl rfl ?_
        refine qv_aIM (qv_cv (pc := 15) g (c_X6_shortenOnce (gl G) X d T _ M5 ht) (qv_R hRm (by omega) (by decide)) ⟨Nat.zero_le _, Nat.zero_le _⟩ mw_X6_shortenOnce lk_RX6_29 im_X6_shortenOnce se_X6_shortenOnce (by decide) rfl ht pd_X6_shortenOnce rfl (Nat.le_of_ble_eq_true rfl) dX6_shorten_15) (fun v7 M8 => ?_)
        refine qv_istore_n (pc := 18) (lv1 := [(1, .int v7), (0, .ref (X.2.2.2 + t)), (2, .int v4)]) g dX6_shorten_18 rfl (by decide) rfl ?_
        refine qv_iinc (pc := 19) (v := (v4 + 1)) (lv1 := [(2, .int (v4 + 1)), (1, .int v7), (0, .ref (X.2.2.2 + t))]) g dX6_shorten_19 rfl rfl (by decide) rfl ?_
        refine qv_goto (pc := 22) (tgt := 4) g dX6_shorten_22 (by decide) ?_
        refine qv_lv [2, 1, 0] rfl ?_
        exact qr6 _ _ _) _ _ _ _

set_option maxHeartbeats 4000000 in
set_option maxRecDepth 100000 in
theorem c_X9_shorter (l : Launch) (X : qv_X) (d : Nat) (T : List qv_Ent) (t : Nat) (p1 : Int32) (M : qv_Mem) {nt : Nat} (ht : qv_is (nt + 4) T 9 14 t) : qv_Ok l X yX9_shorter cX9_shorter 2 (some .int) (d + 6) T M [.ref (X.2.2.2 + t), .int p1] qv_eIM (f_X9_shorter T t p1 M) := by
  refine qv_mk (lv := [(0, .ref (X.2.2.2 + t)), (1, .int p1)]) (by decide) (Nat.le_of_ble_eq_true rfl) rfl (fun G hG hRm g hr => ?_)
  have g : qv_ok G X cX9_shorter RX9 2 := g
  unfold f_X9_shorter
  refine qv_iload_n (pc := 0) g dX9_shorter_0 rfl rfl ?_
  refine qv_aI rfl (qv_cs (pc := 1) g (c_X9_isWord (gl G) X (d + 4) T _ M) (qv_R hRm (by omega) (by decide)) ⟨Nat.zero_le _, Nat.zero_le _⟩ mw_X9_isWord lk_RX9_194 st_X9_isWord pd_X9_isWord rfl (Nat.le_of_ble_eq_true rfl) dX9_shorter_1) (fun v1 => ?_)
  refine qv_if_ne (pc := 4) (tgt := 9) g dX9_shorter_4 (by decide) ?_ ?_
  · refine qv_aload_n (pc := 9) g dX9_shorter_9 rfl rfl ?_
    have h1 : qv_is _ T 6 2 (qv_rf T t 9) := ht.to 9 (by decide) (by decide) rfl
    refine qv_getr (pc := 10) g fw_RX9_70 ht (by decide) (by decide) rfl dX9_shorter_10 ?_
    refine qv_aload_n (pc := 13) g dX9_shorter_13 rfl rfl ?_
    have h2 : qv_is _ T 0 3 (qv_rf T t 0) := ht.to 0 (by decide) (by decide) rfl
    refine qv_getr (pc := 14) g fw_RX9_12 ht (by decide) (by decide) rfl dX9_shorter_14 ?_
    have h3 : qv_is _ T 36 3 (qv_rf T (qv_rf T t 0) 1) := h2.to 1 (by decide) (by decide) rfl
    refine qv_getr (pc := 17) g fw_RX9_197 h2 (by decide) (by decide) rfl dX9_shorter_17 ?_
    refine qv_iload_n (pc := 20) g dX9_shorter_20 rfl rfl ?_
    refine qv_aald (pc := 21) g (by decide) h3 (fun _ _ => ⟨_, rfl⟩) dX9_shorter_21 (fun z2 => ?_)
    have h4 : qv_is _ T 6 2 (qv_rf T (qv_rf T (qv_rf T t 0) 1) p1.toNatClampNeg) := h3.to _ (by decide) (qv_inb_lt z2) rfl
    refine qv_aV (qv_cv (pc := 22) g (c_X6_makeCopy (gl G) X (d + 5) T _ _ M h1 h4) (qv_R hRm (by omega) (by decide)) ⟨Nat.zero_le _, Nat.zero_le _⟩ mw_X6_makeCopy lk_RX9_201 im_X6_makeCopy se_X6_makeCopy (by decide) rfl h1 pd_X6_makeCopy rfl (Nat.le_of_ble_eq_true rfl) dX9_shorter_22) (fun M3 => ?_)
    refine qv_aload_n (pc := 25) g dX9_shorter_25 rfl rfl ?_
    refine qv_getr (pc := 26) g fw_RX9_70 ht (by decide) (by decide) rfl dX9_shorter_26 ?_
    refine qv_aV (qv_cv (pc := 29) g (c_X6_shorten (gl G) X d T _ M3 h1) (qv_R hRm (by omega) (by decide)) ⟨Nat.zero_le _, Nat.zero_le _⟩ mw_X6_shorten lk_RX9_228 im_X6_shorten se_X6_shorten (by decide) rfl h1 pd_X6_shorten rfl (Nat.le_of_ble_eq_true rfl) dX9_shorter_29) (fun M4 => ?_)
    refine qv_aload_n (pc := 32) g dX9_shorter_32 rfl rfl ?_
    refine qv_iload_n (pc := 33) g dX9_shorter_33 rfl rfl ?_
    refine qv_aIM (qv_cv (pc := 34) g (c_X9_settleWord (gl G) X (d + 3) T _ _ M4 ht) (qv_R hRm (by omega) (by decide)) ⟨Nat.zero_le _, Nat.zero_le _⟩ mw_X9_settleWord lk_RX9_207 im_X9_settleWord se_X9_settleWord (by decide) rfl ht pd_X9_settleWord rfl (Nat.le_of_ble_eq_true rfl) dX9_shorter_34) (fun v5 M6 => ?_)
    exact qv_iret (pc := 37) g hr rfl dX9_shorter_37
  · refine qv_iconst (v := (-1)) (pc := 7) g dX9_shorter_7 (by decide) ?_
    exact qv_iret (pc := 8) g hr rfl dX9_shorter_8

set_option maxHeartbeats 4000000 in
set_option maxRecDepth 100000 in
theorem c_X4_takeAway (l : Launch) (X : qv_X) (d : Nat) (T : List qv_Ent) (t : Nat) (p1 : Int32) (M : qv_Mem) {nt : Nat} (ht : qv_is (nt + 3) T 4 3 t) : qv_Ok l X yX4_takeAway cX4_takeAway 2 none (d + 3) T M [.ref (X.2.2.2 + t), .int p1] qv_eV (f_X4_takeAway T t p1 M) := by
  refine qv_mk (lv := [(0, .ref (X.2.2.2 + t)), (1, .int p1)]) (by decide) (Nat.le_of_ble_eq_true rfl) rfl (fun G hG hRm g hr => ?_)
  have g : qv_ok G X cX4_takeAway RX4 2 := g
  unfold f_X4_takeAway
  refine qv_iload_n (pc := 0) g dX4_takeAway_0 rfl rfl ?_
  refine qv_iconst (v := 2) (pc := 1) g dX4_takeAway_1 (by decide) ?_
  refine qv_join (fun (k2 : qv_Mem → Option qv_Mem) => ∀ (M1 : qv_Mem), qv_V G X 2 (qv_QM G X T qv_eV (0, 0)) T (0, 0) 21 [(0, .ref (X.2.2.2 + t)), (1, .int p1)] [] M1 (k2 M1)) (fun M1 => ?_) (fun k2 qk2 => ?_)
  · refine qv_iload_n (pc := 21) g dX4_takeAway_21 rfl rfl ?_
    refine qv_iconst (v := 1) (pc := 22) g dX4_takeAway_22 (by decide) ?_
    refine qv_join (fun (k4 : qv_Mem → Option qv_Mem) => ∀ (M3 : qv_Mem), qv_V G X 2 (qv_QM G X T qv_eV (0, 0)) T (0, 0) 34 [(0, .ref (X.2.2.2 + t))] [] M3 (k4 M3)) (fun M3 => ?_) (fun k4 qk4 => ?_)
    · refine qv_aload_n (pc := 34) g dX4_takeAway_34 rfl rfl ?_
      have h1 : qv_is _ T 7 2 (qv_rf T t 1) := ht.to 1 (by decide) (by decide) rfl
      refine qv_getr (pc := 35) g fw_RX4_18 ht (by decide) (by decide) rfl dX4_takeAway_35 ?_
      refine qv_bipush (v := 6) (pc := 38) g dX4_takeAway_38 (by decide) ?_
      refine qv_aV (qv_cv (pc := 40) g (c_X7_applyAhead (gl G) X d T _ _ M3 h1) (qv_R hRm (by omega) (by decide)) ⟨Nat.zero_le _, Nat.zero_le _⟩ mw_X7_applyAhead lk_RX4_60 im_X7_applyAhead se_X7_applyAhead (by decide) rfl h1 pd_X7_applyAhead rfl (Nat.le_of_ble_eq_true rfl) dX4_takeAway_40) (fun M5 => ?_)
      exact qv_vret (pc := 43) g hr rfl dX4_takeAway_43
    refine qv_icmp_lt (pc := 23) (tgt := 34) g dX4_takeAway_23 (by decide) ?_ ?_
    · refine qv_lv [0] rfl ?_
      exact qk4 _
    · refine qv_aload_n (pc := 26) g dX4_takeAway_26 rfl rfl ?_
      have h2 : qv_is _ T 7 2 (qv_rf T t 1) := ht.to 1 (by decide) (by decide) rfl
      refine qv_getr (pc := 27) g fw_RX4_18 ht (by decide) (by decide) rfl dX4_takeAway_27 ?_
      refine qv_iconst (v := 0) (pc := 30) g dX4_takeAway_30 (by decide) ?_
      refine qv_aV (qv_cv (pc := 31) g (c_X7_applyAhead (gl G) X d T _ _ M1 h2) (qv_R hRm (by omega) (by decide)) ⟨Nat.zero_le _, Nat.zero_le _⟩ mw_X7_applyAhead lk_RX4_60 im_X7_applyAhead se_X7_applyAhead (by decide) rfl h2 pd_X7_applyAhead rfl (Nat.le_of_ble_eq_true rfl) dX4_takeAway_31) (fun M6 => ?_)
      refine qv_lv [0] rfl ?_
      exact qk4 _
  refine qv_icmp_ne (pc := 2) (tgt := 21) g dX4_takeAway_2 (by decide) ?_ ?_
  · exact qk2 _
  · refine qv_aload_n (pc := 5) g dX4_takeAway_5 rfl rfl ?_
    have h3 : qv_is _ T 7 2 (qv_rf T t 1) := ht.to 1 (by decide) (by decide) rfl
    refine qv_getr (pc := 6) g fw_RX4_18 ht (by decide) (by decide) rfl dX4_takeAway_6 ?_
    refine qv_iconst (v := 2) (pc := 9) g dX4_takeAway_9 (by decide) ?_
    refine qv_aV (qv_cv (pc := 10) g (c_X7_applyAhead (gl G) X d T _ _ M h3) (qv_R hRm (by omega) (by decide)) ⟨Nat.zero_le _, Nat.zero_le _⟩ mw_X7_applyAhead lk_RX4_60 im_X7_applyAhead se_X7_applyAhead (by decide) rfl h3 pd_X7_applyAhead rfl (Nat.le_of_ble_eq_true rfl) dX4_takeAway_10) (fun M7 => ?_)
    refine qv_aload_n (pc := 13) g dX4_takeAway_13 rfl rfl ?_
    refine qv_getr (pc := 14) g fw_RX4_18 ht (by decide) (by decide) rfl dX4_takeAway_14 ?_
    refine qv_iconst (v := 4) (pc := 17) g dX4_takeAway_17 (by decide) ?_
    refine qv_aV (qv_cv (pc := 18) g (c_X7_applyAhead (gl G) X d T _ _ M7 h3) (qv_R hRm (by omega) (by decide)) ⟨Nat.zero_le _, Nat.zero_le _⟩ mw_X7_applyAhead lk_RX4_60 im_X7_applyAhead se_X7_applyAhead (by decide) rfl h3 pd_X7_applyAhead rfl (Nat.le_of_ble_eq_true rfl) dX4_takeAway_18) (fun M8 => ?_)
    exact qk2 _

set_option maxHeartbeats 4000000 in
set_option maxRecDepth 100000 in
theorem c_X4_findSyllable (l : Launch) (X : qv_X) (d : Nat) (T : List qv_Ent) (t : Nat) (p1 : Int32) (M : qv_Mem) {nt : Nat} (ht : qv_is (nt + 3) T 4 3 t) : qv_Ok l X yX4_findSyllable cX4_findSyllable 3 (some .int) (d + 4) T M [.ref (X.2.2.2 + t), .int p1] qv_eIM (f_X4_findSyllable T t p1 M) := by
  refine qv_mk (lv := [(0, .ref (X.2.2.2 + t)), (1, .int p1)]) (by decide) (Nat.le_of_ble_eq_true rfl) rfl (fun G hG hRm g hr => ?_)
  have g : qv_ok G X cX4_findSyllable RX4 3 := g
  unfold f_X4_findSyllable
  refine qv_iconst (v := 0) (pc := 0) g dX4_findSyllable_0 (by decide) ?_
  refine qv_istore_n (pc := 1) (lv1 := [(2, .int 0), (0, .ref (X.2.2.2 + t)), (1, .int p1)]) g dX4_findSyllable_1 rfl (by decide) rfl ?_
  refine qv_join (fun (k2 : qv_Mem → Option (Int32 × qv_Mem)) => ∀ (M1 : qv_Mem), qv_V G X 3 (qv_QM G X T qv_eIM (0, 0)) T (0, 0) 55 [] [] M1 (k2 M1)) (fun M1 => ?_) (fun k2 qk2 => ?_)
  · refine qv_bipush (v := (-2)) (pc := 55) g dX4_findSyllable_55 (by decide) ?_
    exact qv_iret (pc := 57) g hr rfl dX4_findSyllable_57
  refine qv_lv [1, 2, 0] rfl ?_
  exact qv_L2 (Vh := fun (v3 : Int32) (M4 : qv_Mem) o => qv_V G X 3 (qv_QM G X T qv_eIM (0, 0)) T (0, 0) 2 [(0, .ref (X.2.2.2 + t)), (1, .int p1), (2, .int v3)] [] M4 o) (fun _ _ => qv_none) (fun r5 qr5 v3 M4 => by
    unfold b_X4_findSyllable_2
    refine qv_iload_n (pc := 2) g dX4_findSyllable_2 rfl rfl ?_
    refine qv_iconst (v := 3) (pc := 3) g dX4_findSyllable_3 (by decide) ?_
    refine qv_icmp_ge (pc := 4) (tgt := 55) g dX4_findSyllable_4 (by decide) ?_ ?_
    · refine qv_lv [] rfl ?_
      exact qk2 _
    · refine qv_aload_n (pc := 7) g dX4_findSyllable_7 rfl rfl ?_
      have h1 : qv_is _ T 7 2 (qv_rf T t 1) := ht.to 1 (by decide) (by decide) rfl
      refine qv_getr (pc := 8) g fw_RX4_18 ht (by decide) (by decide) rfl dX4_findSyllable_8 ?_
      refine qv_aload_n (pc := 11) g dX4_findSyllable_11 rfl rfl ?_
      have h2 : qv_is _ T 7 2 (qv_rf T t 0) := ht.to 0 (by decide) (by decide) rfl
      refine qv_getr (pc := 12) g fw_RX4_12 ht (by decide) (by decide) rfl dX4_findSyllable_12 ?_
      refine qv_aV (qv_cv (pc := 15) g (c_X7_makeCopy (gl G) X (d + 3) T _ _ M4 h1 h2) (qv_R hRm (by omega) (by decide)) ⟨Nat.zero_le _, Nat.zero_le _⟩ mw_X7_makeCopy lk_RX4_34 im_X7_makeCopy se_X7_makeCopy (by decide) rfl h1 pd_X7_makeCopy rfl (Nat.le_of_ble_eq_true rfl) dX4_findSyllable_15) (fun M6 => ?_)
      refine qv_aload_n (pc := 18) g dX4_findSyllable_18 rfl rfl ?_
      refine qv_iload_n (pc := 19) g dX4_findSyllable_19 rfl rfl ?_
      refine qv_aV (qv_cv (pc := 20) g (c_X4_takeAway (gl G) X d T _ _ M6 ht) (qv_R hRm (by omega) (by decide)) ⟨Nat.zero_le _, Nat.zero_le _⟩ mw_X4_takeAway lk_RX4_56 im_X4_takeAway se_X4_takeAway (by decide) rfl ht pd_X4_takeAway rfl (Nat.le_of_ble_eq_true rfl) dX4_findSyllable_20) (fun M7 => ?_)
      refine qv_aload_n (pc := 23) g dX4_findSyllable_23 rfl rfl ?_
      have h3 : qv_is _ T 1 6 (qv_rf T t 2) := ht.to 2 (by decide) (by decide) rfl
      refine qv_getr (pc := 24) g fw_RX4_24 ht (by decide) (by decide) rfl dX4_findSyllable_24 ?_
      refine qv_aload_n (pc := 27) g dX4_findSyllable_27 rfl rfl ?_
      refine qv_getr (pc := 28) g fw_RX4_18 ht (by decide) (by decide) rfl dX4_findSyllable_28 ?_
      refine qv_aV (qv_cv (pc := 31) g (c_X1_makeOf (gl G) X d T _ _ M7 h3 h1) (qv_R hRm (by omega) (by decide)) ⟨Nat.zero_le _, Nat.zero_le _⟩ mw_X1_makeOf lk_RX4_38 im_X1_makeOf se_X1_makeOf (by decide) rfl h3 pd_X1_makeOf rfl (Nat.le_of_ble_eq_true rfl) dX4_findSyllable_31) (fun M8 => ?_)
      refine qv_aload_n (pc := 34) g dX4_findSyllable_34 rfl rfl ?_
      refine qv_getr (pc := 35) g fw_RX4_24 ht (by decide) (by decide) rfl dX4_findSyllable_35 ?_
      refine qv_gets (pc := 38) g fw_RX4_41 h3 (by decide) (by decide) rfl dX4_findSyllable_38 (fun v9 => ?_)
      refine qv_iload_n (pc := 41) g dX4_findSyllable_41 rfl rfl ?_
      refine qv_iconst (v := 1) (pc := 42) g dX4_findSyllable_42 (by decide) ?_
      refine qv_isub (pc := 43) g dX4_findSyllable_43 ?_
      refine qv_icmp_ne (pc := 44) (tgt := 49) g dX4_findSyllable_44 (by decide) ?_ ?_
      · refine qv_iinc (pc := 49) (v := (v3 + 1)) (lv1 := [(2, .int (v3 + 1)), (0, .ref (X.2.2.2 + t)), (1, .int p1)]) g dX4_findSyllable_49 rfl rfl (by decide) rfl ?_
        refine qv_goto (pc := 52) (tgt := 2) g dX4_findSyllable_52 (by decide) ?_
        refine qv_lv [1, 2, 0] rfl ?_
        exact qr5 _ _
      · refine qv_iload_n (pc := 47) g dX4_findSyllable_47 rfl rfl ?_
        exact qv_iret (pc := 48) g hr rfl dX4_findSyllable_48) _ _ _

set_option maxHeartbeats 4000000 in
set_option maxRecDepth 100000 in
theorem c_X4_addSyllable (l : Launch) (X : qv_X) (d : Nat) (T : List qv_Ent) (t0 : Nat) (p1 : Int32) (M : qv_Mem) {nt0 : Nat} (ht0 : qv_is (nt0 + 1) T 6 2 t0) : qv_Ok l X yX4_addSyllable cX4_addSyllable 3 (some .boolean) (d + 1) T M [.ref (X.2.2.2 + t0), .int p1] qv_eIM (f_X4_addSyllable T t0 p1 M) := by
  refine qv_mk (lv := [(0, .ref (X.2.2.2 + t0)), (1, .int p1)]) (by decide) (Nat.le_of_ble_eq_true rfl) rfl (fun G hG hRm g hr => ?_)
  have g : qv_ok G X cX4_addSyllable RX4 3 := g
  unfold f_X4_addSyllable
  refine qv_iload_n (pc := 0) g dX4_addSyllable_0 rfl rfl ?_
  refine qv_iconst (v := 2) (pc := 1) g dX4_addSyllable_1 (by decide) ?_
  refine qv_join (fun (k3 : Int32 → qv_Mem → Option (Int32 × qv_Mem)) => ∀ (v1 : Int32) (M2 : qv_Mem), qv_V G X 3 (qv_QM G X T qv_eIM (0, 0)) T (0, 0) 18 [(0, .ref (X.2.2.2 + t0)), (1, .int p1)] [.int v1] M2 (k3 v1 M2)) (fun v1 M2 => ?_) (fun k3 qk3 => ?_)
  · refine qv_istore_n (pc := 18) (lv1 := [(2, .int v1), (0, .ref (X.2.2.2 + t0)), (1, .int p1)]) g dX4_addSyllable_18 rfl (by decide) rfl ?_
    refine qv_iload_n (pc := 19) g dX4_addSyllable_19 rfl rfl ?_
    refine qv_join (fun (k6 : Int32 → qv_Mem → Option (Int32 × qv_Mem)) => ∀ (v4 : Int32) (M5 : qv_Mem), qv_V G X 3 (qv_QM G X T qv_eIM (0, 0)) T (0, 0) 41 [(0, .ref (X.2.2.2 + t0))] [.int v4] M5 (k6 v4 M5)) (fun v4 M5 => ?_) (fun k6 qk6 => ?_)
    · refine qv_istore_n (pc := 41) (lv1 := [(2, .int v4), (0, .ref (X.2.2.2 + t0))]) g dX4_addSyllable_41 rfl (by decide) rfl ?_
      refine qv_iload_n (pc := 42) g dX4_addSyllable_42 rfl rfl ?_
      refine qv_if_eq (pc := 43) (tgt := 58) g dX4_addSyllable_43 (by decide) ?_ ?_
      · refine qv_iconst (v := 0) (pc := 58) g dX4_addSyllable_58 (by decide) ?_
        exact qv_zret (pc := 59) g hr rfl rfl dX4_addSyllable_59
      · refine qv_aload_n (pc := 46) g dX4_addSyllable_46 rfl rfl ?_
        refine qv_iconst (v := 1) (pc := 47) g dX4_addSyllable_47 (by decide) ?_
        refine qv_aIM (qv_cv (pc := 48) g (c_X6_add (gl G) X d T _ _ M5 ht0) (qv_R hRm (by omega) (by decide)) ⟨Nat.zero_le _, Nat.zero_le _⟩ mw_X6_add lk_RX4_63 im_X6_add se_X6_add (by decide) rfl ht0 pd_X6_add rfl (Nat.le_of_ble_eq_true rfl) dX4_addSyllable_48) (fun v7 M8 => ?_)
        refine qv_if_eq (pc := 51) (tgt := 58) g dX4_addSyllable_51 (by decide) ?_ ?_
        · refine qv_iconst (v := 0) (pc := 58) g dX4_addSyllable_58 (by decide) ?_
          exact qv_zret (pc := 59) g hr rfl rfl dX4_addSyllable_59
        · refine qv_iconst (v := 1) (pc := 54) g dX4_addSyllable_54 (by decide) ?_
          refine qv_goto (pc := 55) (tgt := 59) g dX4_addSyllable_55 (by decide) ?_
          exact qv_zret (pc := 59) g hr rfl rfl dX4_addSyllable_59
    refine qv_if_eq (pc := 20) (tgt := 40) g dX4_addSyllable_20 (by decide) ?_ ?_
    · refine qv_iconst (v := 0) (pc := 40) g dX4_addSyllable_40 (by decide) ?_
      refine qv_lv [1] rfl ?_
      exact qk6 _ _
    · refine qv_iload_n (pc := 23) g dX4_addSyllable_23 rfl rfl ?_
      refine qv_iconst (v := 1) (pc := 24) g dX4_addSyllable_24 (by decide) ?_
      refine qv_icmp_lt (pc := 25) (tgt := 36) g dX4_addSyllable_25 (by decide) ?_ ?_
      · refine qv_iconst (v := 1) (pc := 36) g dX4_addSyllable_36 (by decide) ?_
        refine qv_goto (pc := 37) (tgt := 41) g dX4_addSyllable_37 (by decide) ?_
        refine qv_lv [1] rfl ?_
        exact qk6 _ _
      · refine qv_aload_n (pc := 28) g dX4_addSyllable_28 rfl rfl ?_
        refine qv_iconst (v := 0) (pc := 29) g dX4_addSyllable_29 (by decide) ?_
        refine qv_aIM (qv_cv (pc := 30) g (c_X6_add (gl G) X d T _ _ M2 ht0) (qv_R hRm (by omega) (by decide)) ⟨Nat.zero_le _, Nat.zero_le _⟩ mw_X6_add lk_RX4_63 im_X6_add se_X6_add (by decide) rfl ht0 pd_X6_add rfl (Nat.le_of_ble_eq_true rfl) dX4_addSyllable_30) (fun v9 M10 => ?_)
        refine qv_if_eq (pc := 33) (tgt := 40) g dX4_addSyllable_33 (by decide) ?_ ?_
        · refine qv_iconst (v := 0) (pc := 40) g dX4_addSyllable_40 (by decide) ?_
          refine qv_lv [1] rfl ?_
          exact qk6 _ _
        · refine qv_iconst (v := 1) (pc := 36) g dX4_addSyllable_36 (by decide) ?_
          refine qv_goto (pc := 37) (tgt := 41) g dX4_addSyllable_37 (by decide) ?_
          refine qv_lv [1] rfl ?_
          exact qk6 _ _
  refine qv_icmp_lt (pc := 2) (tgt := 13) g dX4_addSyllable_2 (by decide) ?_ ?_
  · refine qv_iconst (v := 1) (pc := 13) g dX4_addSyllable_13 (by decide) ?_
    refine qv_goto (pc := 14) (tgt := 18) g dX4_addSyllable_14 (by decide) ?_
    exact qk3 _ _
  · refine qv_aload_n (pc := 5) g dX4_addSyllable_5 rfl rfl ?_
    refine qv_iconst (v := 2) (pc := 6) g dX4_addSyllable_6 (by decide) ?_
    refine qv_aIM (qv_cv (pc := 7) g (c_X6_add (gl G) X d T _ _ M ht0) (qv_R hRm (by omega) (by decide)) ⟨Nat.zero_le _, Nat.zero_le _⟩ mw_X6_add lk_RX4_63 im_X6_add se_X6_add (by decide) rfl ht0 pd_X6_add rfl (Nat.le_of_ble_eq_true rfl) dX4_addSyllable_7) (fun v11 M12 => ?_)
    refine qv_if_eq (pc := 10) (tgt := 17) g dX4_addSyllable_10 (by decide) ?_ ?_
    · refine qv_iconst (v := 0) (pc := 17) g dX4_addSyllable_17 (by decide) ?_
      exact qk3 _ _
    · refine qv_iconst (v := 1) (pc := 13) g dX4_addSyllable_13 (by decide) ?_
      refine qv_goto (pc := 14) (tgt := 18) g dX4_addSyllable_14 (by decide) ?_
      exact qk3 _ _

set_option maxHeartbeats 4000000 in
set_option maxRecDepth 100000 in
theorem c_X4_addCheapest (l : Launch) (X : qv_X) (d : Nat) (T : List qv_Ent) (t : Nat) (t1 : Nat) (t2 : Nat) (M : qv_Mem) {nt : Nat} (ht : qv_is (nt + 3) T 4 3 t) {nt1 : Nat} (ht1 : qv_is (nt1 + 1) T 6 2 t1) {nt2 : Nat} (ht2 : qv_is (nt2 + 2) T 2 10 t2) : qv_Ok l X yX4_addCheapest cX4_addCheapest 6 (some .boolean) (d + 3) T M [.ref (X.2.2.2 + t), .ref (X.2.2.2 + t1), .ref (X.2.2.2 + t2)] qv_eIM (f_X4_addCheapest T t t1 t2 M) := by
  refine qv_mk (lv := [(0, .ref (X.2.2.2 + t)), (1, .ref (X.2.2.2 + t1)), (2, .ref (X.2.2.2 + t2))]) (by decide) (Nat.le_of_ble_eq_true rfl) rfl (fun G hG hRm g hr => ?_)
  have g : qv_ok G X cX4_addCheapest RX4 6 := g
  unfold f_X4_addCheapest
  refine qv_aload_n (pc := 0) g dX4_addCheapest_0 rfl rfl ?_
  refine qv_aload_n (pc := 1) g dX4_addCheapest_1 rfl rfl ?_
  have h1 : qv_is _ T 7 2 (qv_rf T t 0) := ht.to 0 (by decide) (by decide) rfl
  refine qv_getr (pc := 2) g fw_RX4_12 ht (by decide) (by decide) rfl dX4_addCheapest_2 ?_
  refine qv_aI rfl (qv_cv (pc := 5) g (c_X2_find (gl G) X (d + 1) T _ _ M ht2 h1) (qv_R hRm (by omega) (by decide)) ⟨Nat.zero_le _, Nat.zero_le _⟩ mw_X2_find lk_RX4_67 im_X2_find se_X2_find (by decide) rfl ht2 pd_X2_find rfl (Nat.le_of_ble_eq_true rfl) dX4_addCheapest_5) (fun v1 => ?_)
  refine qv_istore_n (pc := 8) (lv1 := [(3, .int v1), (0, .ref (X.2.2.2 + t)), (1, .ref (X.2.2.2 + t1)), (2, .ref (X.2.2.2 + t2))]) g dX4_addCheapest_8 rfl (by decide) rfl ?_
  refine qv_iload_n (pc := 9) g dX4_addCheapest_9 rfl rfl ?_
  refine qv_if_ge (pc := 10) (tgt := 15) g dX4_addCheapest_10 (by decide) ?_ ?_
  · refine qv_aload_n (pc := 15) g dX4_addCheapest_15 rfl rfl ?_
    refine qv_iload_n (pc := 16) g dX4_addCheapest_16 rfl rfl ?_
    refine qv_aI rfl (qv_cv (pc := 17) g (c_X2_lengthOf (gl G) X (d + 2) T _ _ M ht2) (qv_R hRm (by omega) (by decide)) ⟨Nat.zero_le _, Nat.zero_le _⟩ mw_X2_lengthOf lk_RX4_73 im_X2_lengthOf se_X2_lengthOf (by decide) rfl ht2 pd_X2_lengthOf rfl (Nat.le_of_ble_eq_true rfl) dX4_addCheapest_17) (fun v2 => ?_)
    refine qv_istore (pc := 20) (lv1 := [(4, .int v2), (3, .int v1), (0, .ref (X.2.2.2 + t)), (1, .ref (X.2.2.2 + t1)), (2, .ref (X.2.2.2 + t2))]) g dX4_addCheapest_20 (by decide) rfl ?_
    refine qv_iconst (v := 0) (pc := 22) g dX4_addCheapest_22 (by decide) ?_
    refine qv_istore (pc := 23) (lv1 := [(5, .int 0), (4, .int v2), (3, .int v1), (0, .ref (X.2.2.2 + t)), (1, .ref (X.2.2.2 + t1)), (2, .ref (X.2.2.2 + t2))]) g dX4_addCheapest_23 (by decide) rfl ?_
    refine qv_join (fun (k4 : qv_Mem → Option (Int32 × qv_Mem)) => ∀ (M3 : qv_Mem), qv_V G X 6 (qv_QM G X T qv_eIM (0, 0)) T (0, 0) 58 [] [] M3 (k4 M3)) (fun M3 => ?_) (fun k4 qk4 => ?_)
    · refine qv_iconst (v := 1) (pc := 58) g dX4_addCheapest_58 (by decide) ?_
      exact qv_zret (pc := 59) g hr rfl rfl dX4_addCheapest_59
    refine qv_lv [4, 5, 2, 1, 0] rfl ?_
    exact qv_L3 (Vh := fun (v5 : Int32) (v6 : Int32) (M7 : qv_Mem) o => qv_V G X 6 (qv_QM G X T qv_eIM (0, 0)) T (0, 0) 25 [(1, .ref (X.2.2.2 + t1)), (2, .ref (X.2.2.2 + t2)), (3, .int v5), (4, .int v2), (5, .int v6)] [] M7 o) (fun _ _ _ => qv_none) (fun r8 qr8 v5 v6 M7 => by
      unfold b_X4_addCheapest_25
      refine qv_iload (pc := 25) g dX4_addCheapest_25 rfl ?_
      refine qv_iload (pc := 27) g dX4_addCheapest_27 rfl ?_
      refine qv_icmp_ge (pc := 29) (tgt := 58) g dX4_addCheapest_29 (by decide) ?_ ?_
      · refine qv_lv [] rfl ?_
        exact qk4 _
      · refine qv_aload_n (pc := 32) g dX4_addCheapest_32 rfl rfl ?_
        refine qv_aload_n (pc := 33) g dX4_addCheapest_33 rfl rfl ?_
        refine qv_iload_n (pc := 34) g dX4_addCheapest_34 rfl rfl ?_
        refine qv_aI rfl (qv_cv (pc := 35) g (c_X2_firstGateOf (gl G) X (d + 1) T _ _ M7 ht2) (qv_R hRm (by omega) (by decide)) ⟨Nat.zero_le _, Nat.zero_le _⟩ mw_X2_firstGateOf lk_RX4_76 im_X2_firstGateOf se_X2_firstGateOf (by decide) rfl ht2 pd_X2_firstGateOf rfl (Nat.le_of_ble_eq_true rfl) dX4_addCheapest_35) (fun v9 => ?_)
        refine qv_aIM (qv_cv (pc := 38) g (c_X6_add (gl G) X (d + 2) T _ _ M7 ht1) (qv_R hRm (by omega) (by decide)) ⟨Nat.zero_le _, Nat.zero_le _⟩ mw_X6_add lk_RX4_63 im_X6_add se_X6_add (by decide) rfl ht1 pd_X6_add rfl (Nat.le_of_ble_eq_true rfl) dX4_addCheapest_38) (fun v10 M11 => ?_)
        refine qv_if_ne (pc := 41) (tgt := 46) g dX4_addCheapest_41 (by decide) ?_ ?_
        · refine qv_aload_n (pc := 46) g dX4_addCheapest_46 rfl rfl ?_
          refine qv_iload_n (pc := 47) g dX4_addCheapest_47 rfl rfl ?_
          refine qv_aI rfl (qv_cv (pc := 48) g (c_X2_restOf (gl G) X d T _ _ M11 ht2) (qv_R hRm (by omega) (by decide)) ⟨Nat.zero_le _, Nat.zero_le _⟩ mw_X2_restOf lk_RX4_79 im_X2_restOf se_X2_restOf (by decide) rfl ht2 pd_X2_restOf rfl (Nat.le_of_ble_eq_true rfl) dX4_addCheapest_48) (fun v12 => ?_)
          refine qv_istore_n (pc := 51) (lv1 := [(3, .int v12), (1, .ref (X.2.2.2 + t1)), (2, .ref (X.2.2.2 + t2)), (4, .int v2), (5, .int v6)]) g dX4_addCheapest_51 rfl (by decide) rfl ?_
          refine qv_iinc (pc := 52) (v := (v6 + 1)) (lv1 := [(5, .int (v6 + 1)), (3, .int v12), (1, .ref (X.2.2.2 + t1)), (2, .ref (X.2.2.2 + t2)), (4, .int v2)]) g dX4_addCheapest_52 rfl rfl (by decide) rfl ?_
          refine qv_goto (pc := 55) (tgt := 25) g dX4_addCheapest_55 (by decide) ?_
          refine qv_lv [2, 3, 1, 4, 0] rfl ?_
          exact qr8 _ _ _
        · refine qv_iconst (v := 0) (pc := 44) g dX4_addCheapest_44 (by decide) ?_
          exact qv_zret (pc := 45) g hr rfl rfl dX4_addCheapest_45) _ _ _ _
  · refine qv_iconst (v := 0) (pc := 13) g dX4_addCheapest_13 (by decide) ?_
    exact qv_zret (pc := 14) g hr rfl rfl dX4_addCheapest_14

set_option maxHeartbeats 4000000 in
set_option maxRecDepth 100000 in
theorem c_X4_form (l : Launch) (X : qv_X) (d : Nat) (T : List qv_Ent) (t : Nat) (t1 : Nat) (t2 : Nat) (t3 : Nat) (M : qv_Mem) {nt : Nat} (ht : qv_is (nt + 3) T 4 3 t) {nt1 : Nat} (ht1 : qv_is (nt1 + 1) T 7 2 t1) {nt2 : Nat} (ht2 : qv_is (nt2 + 2) T 2 10 t2) {nt3 : Nat} (ht3 : qv_is (nt3 + 1) T 6 2 t3) : qv_Ok l X yX4_form cX4_form 7 (some .boolean) (d + 5) T M [.ref (X.2.2.2 + t), .ref (X.2.2.2 + t1), .ref (X.2.2.2 + t2), .ref (X.2.2.2 + t3)] qv_eIM (f_X4_form T t t1 t2 t3 M) := by
  refine qv_mk (lv := [(0, .ref (X.2.2.2 + t)), (1, .ref (X.2.2.2 + t1)), (2, .ref (X.2.2.2 + t2)), (3, .ref (X.2.2.2 + t3))]) (by decide) (Nat.le_of_ble_eq_true rfl) rfl (fun G hG hRm g hr => ?_)
  have g : qv_ok G X cX4_form RX4 7 := g
  unfold f_X4_form
  refine qv_aload_n (pc := 0) g dX4_form_0 rfl rfl ?_
  refine qv_iconst (v := 0) (pc := 1) g dX4_form_1 (by decide) ?_
  refine qv_puti (pc := 2) g pw_RX4_28 ht3 (by decide) (by decide) rfl dX4_form_2 (fun M1 => ?_)
  refine qv_aload_n (pc := 5) g dX4_form_5 rfl rfl ?_
  have h1 : qv_is _ T 7 2 (qv_rf T t 0) := ht.to 0 (by decide) (by decide) rfl
  refine qv_getr (pc := 6) g fw_RX4_12 ht (by decide) (by decide) rfl dX4_form_6 ?_
  refine qv_aload_n (pc := 9) g dX4_form_9 rfl rfl ?_
  refine qv_aV (qv_cv (pc := 10) g (c_X7_makeCopy (gl G) X (d + 4) T _ _ M1 h1 ht1) (qv_R hRm (by omega) (by decide)) ⟨Nat.zero_le _, Nat.zero_le _⟩ mw_X7_makeCopy lk_RX4_34 im_X7_makeCopy se_X7_makeCopy (by decide) rfl h1 pd_X7_makeCopy rfl (Nat.le_of_ble_eq_true rfl) dX4_form_10) (fun M2 => ?_)
  refine qv_aload_n (pc := 13) g dX4_form_13 rfl rfl ?_
  have h2 : qv_is _ T 1 6 (qv_rf T t 2) := ht.to 2 (by decide) (by decide) rfl
  refine qv_getr (pc := 14) g fw_RX4_24 ht (by decide) (by decide) rfl dX4_form_14 ?_
  refine qv_aload_n (pc := 17) g dX4_form_17 rfl rfl ?_
  refine qv_getr (pc := 18) g fw_RX4_12 ht (by decide) (by decide) rfl dX4_form_18 ?_
  refine qv_aV (qv_cv (pc := 21) g (c_X1_makeOf (gl G) X (d + 1) T _ _ M2 h2 h1) (qv_R hRm (by omega) (by decide)) ⟨Nat.zero_le _, Nat.zero_le _⟩ mw_X1_makeOf lk_RX4_38 im_X1_makeOf se_X1_makeOf (by decide) rfl h2 pd_X1_makeOf rfl (Nat.le_of_ble_eq_true rfl) dX4_form_21) (fun M3 => ?_)
  refine qv_aload_n (pc := 24) g dX4_form_24 rfl rfl ?_
  refine qv_getr (pc := 25) g fw_RX4_24 ht (by decide) (by decide) rfl dX4_form_25 ?_
  refine qv_gets (pc := 28) g fw_RX4_41 h2 (by decide) (by decide) rfl dX4_form_28 (fun v4 => ?_)
  refine qv_istore (pc := 31) (lv1 := [(4, .int v4), (0, .ref (X.2.2.2 + t)), (1, .ref (X.2.2.2 + t1)), (2, .ref (X.2.2.2 + t2)), (3, .ref (X.2.2.2 + t3))]) g dX4_form_31 (by decide) rfl ?_
  refine qv_iconst (v := 0) (pc := 33) g dX4_form_33 (by decide) ?_
  refine qv_istore (pc := 34) (lv1 := [(5, .int 0), (4, .int v4), (0, .ref (X.2.2.2 + t)), (1, .ref (X.2.2.2 + t1)), (2, .ref (X.2.2.2 + t2)), (3, .ref (X.2.2.2 + t3))]) g dX4_form_34 (by decide) rfl ?_
  refine qv_join (fun (k7 : Int32 → qv_Mem → Option (Int32 × qv_Mem)) => ∀ (v5 : Int32) (M6 : qv_Mem), qv_V G X 7 (qv_QM G X T qv_eIM (0, 0)) T (0, 0) 92 [(0, .ref (X.2.2.2 + t)), (2, .ref (X.2.2.2 + t2)), (3, .ref (X.2.2.2 + t3)), (4, .int v5)] [] M6 (k7 v5 M6)) (fun v5 M6 => ?_) (fun k7 qk7 => ?_)
  · refine qv_iload (pc := 92) g dX4_form_92 rfl ?_
    refine qv_if_ne (pc := 94) (tgt := 110) g dX4_form_94 (by decide) ?_ ?_
    · refine qv_iconst (v := 0) (pc := 110) g dX4_form_110 (by decide) ?_
      exact qv_zret (pc := 111) g hr rfl rfl dX4_form_111
    · refine qv_aload_n (pc := 97) g dX4_form_97 rfl rfl ?_
      refine qv_aload_n (pc := 98) g dX4_form_98 rfl rfl ?_
      refine qv_aload_n (pc := 99) g dX4_form_99 rfl rfl ?_
      refine qv_aIM (qv_cv (pc := 100) g (c_X4_addCheapest (gl G) X (d + 1) T _ _ _ M6 ht ht3 ht2) (qv_R hRm (by omega) (by decide)) ⟨Nat.zero_le _, Nat.zero_le _⟩ mw_X4_addCheapest lk_RX4_52 im_X4_addCheapest se_X4_addCheapest (by decide) rfl ht pd_X4_addCheapest rfl (Nat.le_of_ble_eq_true rfl) dX4_form_100) (fun v8 M9 => ?_)
      refine qv_if_eq (pc := 103) (tgt := 110) g dX4_form_103 (by decide) ?_ ?_
      · refine qv_iconst (v := 0) (pc := 110) g dX4_form_110 (by decide) ?_
        exact qv_zret (pc := 111) g hr rfl rfl dX4_form_111
      · refine qv_iconst (v := 1) (pc := 106) g dX4_form_106 (by decide) ?_
        refine qv_goto (pc := 107) (tgt := 111) g dX4_form_107 (by decide) ?_
        exact qv_zret (pc := 111) g hr rfl rfl dX4_form_111
  refine qv_lv [2, 4, 5, 1, 0] rfl ?_
  exact qv_L3 (Vh := fun (v10 : Int32) (v11 : Int32) (M12 : qv_Mem) o => qv_V G X 7 (qv_QM G X T qv_eIM (0, 0)) T (0, 0) 36 [(0, .ref (X.2.2.2 + t)), (2, .ref (X.2.2.2 + t2)), (3, .ref (X.2.2.2 + t3)), (4, .int v10), (5, .int v11)] [] M12 o) (fun _ _ _ => qv_none) (fun r13 qr13 v10 v11 M12 => by
    unfold b_X4_form_36
    refine qv_iload (pc := 36) g dX4_form_36 rfl ?_
    refine qv_bipush (v := 60) (pc := 38) g dX4_form_38 (by decide) ?_
    refine qv_icmp_ge (pc := 40) (tgt := 92) g dX4_form_40 (by decide) ?_ ?_
    · refine qv_lv [0, 1, 2, 3] rfl ?_
      exact qk7 _ _
    · refine qv_iload (pc := 43) g dX4_form_43 rfl ?_
      refine qv_if_le (pc := 45) (tgt := 92) g dX4_form_45 (by decide) ?_ ?_
      · refine qv_lv [0, 1, 2, 3] rfl ?_
        exact qk7 _ _
      · refine qv_aload_n (pc := 48) g dX4_form_48 rfl rfl ?_
        refine qv_iload (pc := 49) g dX4_form_49 rfl ?_
        refine qv_aIM (qv_cv (pc := 51) g (c_X4_findSyllable (gl G) X d T _ _ M12 ht) (qv_R hRm (by omega) (by decide)) ⟨Nat.zero_le _, Nat.zero_le _⟩ mw_X4_findSyllable lk_RX4_44 im_X4_findSyllable se_X4_findSyllable (by decide) rfl ht pd_X4_findSyllable rfl (Nat.le_of_ble_eq_true rfl) dX4_form_51) (fun v14 M15 => ?_)
        refine qv_istore (pc := 54) (lv1 := [(6, .int v14), (0, .ref (X.2.2.2 + t)), (2, .ref (X.2.2.2 + t2)), (3, .ref (X.2.2.2 + t3)), (4, .int v10), (5, .int v11)]) g dX4_form_54 (by decide) rfl ?_
        refine qv_iload (pc := 56) g dX4_form_56 rfl ?_
        refine qv_if_lt (pc := 58) (tgt := 70) g dX4_form_58 (by decide) ?_ ?_
        · refine qv_iconst (v := 0) (pc := 70) g dX4_form_70 (by decide) ?_
          exact qv_zret (pc := 71) g hr rfl rfl dX4_form_71
        · refine qv_aload_n (pc := 61) g dX4_form_61 rfl rfl ?_
          refine qv_iload (pc := 62) g dX4_form_62 rfl ?_
          refine qv_aIM (qv_cs (pc := 64) g (c_X4_addSyllable (gl G) X (d + 3) T _ _ M15 ht3) (qv_R hRm (by omega) (by decide)) ⟨Nat.zero_le _, Nat.zero_le _⟩ mw_X4_addSyllable lk_RX4_48 st_X4_addSyllable pd_X4_addSyllable rfl (Nat.le_of_ble_eq_true rfl) dX4_form_64) (fun v16 M17 => ?_)
          refine qv_if_ne (pc := 67) (tgt := 72) g dX4_form_67 (by decide) ?_ ?_
          · refine qv_aload_n (pc := 72) g dX4_form_72 rfl rfl ?_
            refine qv_getr (pc := 73) g fw_RX4_12 ht (by decide) (by decide) rfl dX4_form_73 ?_
            refine qv_aload_n (pc := 76) g dX4_form_76 rfl rfl ?_
            have h3 : qv_is _ T 7 2 (qv_rf T t 1) := ht.to 1 (by decide) (by decide) rfl
            refine qv_getr (pc := 77) g fw_RX4_18 ht (by decide) (by decide) rfl dX4_form_77 ?_
            refine qv_aV (qv_cv (pc := 80) g (c_X7_makeCopy (gl G) X (d + 4) T _ _ M17 h1 h3) (qv_R hRm (by omega) (by decide)) ⟨Nat.zero_le _, Nat.zero_le _⟩ mw_X7_makeCopy lk_RX4_34 im_X7_makeCopy se_X7_makeCopy (by decide) rfl h1 pd_X7_makeCopy rfl (Nat.le_of_ble_eq_true rfl) dX4_form_80) (fun M18 => ?_)
            refine qv_iinc (pc := 83) (v := (v10 + (-1))) (lv1 := [(4, .int (v10 + (-1))), (6, .int v14), (0, .ref (X.2.2.2 + t)), (2, .ref (X.2.2.2 + t2)), (3, .ref (X.2.2.2 + t3)), (5, .int v11)]) g dX4_form_83 rfl rfl (by decide) rfl ?_
            refine qv_iinc (pc := 86) (v := (v11 + 1)) (lv1 := [(5, .int (v11 + 1)), (4, .int (v10 + (-1))), (6, .int v14), (0, .ref (X.2.2.2 + t)), (2, .ref (X.2.2.2 + t2)), (3, .ref (X.2.2.2 + t3))]) g dX4_form_86 rfl rfl (by decide) rfl ?_
            refine qv_goto (pc := 89) (tgt := 36) g dX4_form_89 (by decide) ?_
            refine qv_lv [3, 4, 5, 1, 0] rfl ?_
            exact qr13 _ _ _
          · refine qv_iconst (v := 0) (pc := 70) g dX4_form_70 (by decide) ?_
            exact qv_zret (pc := 71) g hr rfl rfl dX4_form_71) _ _ _ _

