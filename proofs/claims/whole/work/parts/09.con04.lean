set_option maxHeartbeats 4000000 in
set_option maxRecDepth 100000 in
theorem c_X0_countGates (l : Launch) (X : qv_X) (d : Nat) (T : List qv_Ent) (t : Nat) (M : qv_Mem) {nt : Nat} (ht : qv_is (nt + 3) T 0 3 t) : qv_Ok l X yX0_countGates cX0_countGates 6 (some .int) (d) T M [.ref (X.2.2.2 + t)] (qv_eI M) (f_X0_countGates T t M) := by
  refine qv_mk (lv := [(0, .ref (X.2.2.2 + t))]) (by decide) (Nat.le_of_ble_eq_true rfl) rfl (fun G hG hRm g hr => ?_)
  have g : qv_ok G X cX0_countGates RX0 6 := g
  unfold f_X0_countGates
  refine qv_iconst (v := 0) (pc := 0) g dX0_countGates_0 (by decide) ?_
  refine qv_istore_n (pc := 1) (lv1 := [(1, .int 0), (0, .ref (X.2.2.2 + t))]) g dX0_countGates_1 rfl (by decide) rfl ?_
  refine qv_aload_n (pc := 2) g dX0_countGates_2 rfl rfl ?_
  have h1 : qv_is _ T 36 3 (qv_rf T t 1) := ht.to 1 (by decide) (by decide) rfl
  refine qv_getr (pc := 3) g fw_RX0_19 ht (by decide) (by decide) rfl dX0_countGates_3 ?_
  refine qv_astore_n (pc := 6) (lv1 := [(2, .ref (X.2.2.2 + (qv_rf T t 1))), (1, .int 0), (0, .ref (X.2.2.2 + t))]) g dX0_countGates_6 rfl (by decide) rfl ?_
  refine qv_aload_n (pc := 7) g dX0_countGates_7 rfl rfl ?_
  refine qv_alen (pc := 8) (v := 3) g (by decide) h1 (by decide) dX0_countGates_8 ?_
  refine qv_istore_n (pc := 9) (lv1 := [(3, .int 3), (2, .ref (X.2.2.2 + (qv_rf T t 1))), (1, .int 0), (0, .ref (X.2.2.2 + t))]) g dX0_countGates_9 rfl (by decide) rfl ?_
  refine qv_iconst (v := 0) (pc := 10) g dX0_countGates_10 (by decide) ?_
  refine qv_istore (pc := 11) (lv1 := [(4, .int 0), (3, .int 3), (2, .ref (X.2.2.2 + (qv_rf T t 1))), (1, .int 0), (0, .ref (X.2.2.2 + t))]) g dX0_countGates_11 (by decide) rfl ?_
  refine qv_join (fun (k2 : Int32 → Option Int32) => ∀ (v1 : Int32), qv_V G X 6 (qv_QM G X T (qv_eI M) (0, 0)) T (0, 0) 39 [(1, .int v1)] [] M (k2 v1)) (fun v1 => ?_) (fun k2 qk2 => ?_)
  · refine qv_iload_n (pc := 39) g dX0_countGates_39 rfl rfl ?_
    exact qv_iret (pc := 40) g hr rfl dX0_countGates_40
  refine qv_lv [3, 2, 1, 0] rfl ?_
  exact qv_L2 (Vh := fun (v3 : Int32) (v4 : Int32) o => qv_V G X 6 (qv_QM G X T (qv_eI M) (0, 0)) T (0, 0) 13 [(1, .int v3), (2, .ref (X.2.2.2 + (qv_rf T t 1))), (3, .int 3), (4, .int v4)] [] M o) (fun _ _ => qv_none) (fun r5 qr5 v3 v4 => by
    unfold b_X0_countGates_13
    refine qv_iload (pc := 13) g dX0_countGates_13 rfl ?_
    refine qv_iload_n (pc := 15) g dX0_countGates_15 rfl rfl ?_
    refine qv_icmp_ge (pc := 16) (tgt := 39) g dX0_countGates_16 (by decide) ?_ ?_
    · refine qv_lv [0] rfl ?_
      exact qk2 _
    · refine qv_aload_n (pc := 19) g dX0_countGates_19 rfl rfl ?_
      refine qv_iload (pc := 20) g dX0_countGates_20 rfl ?_
      refine qv_aald (pc := 22) g (by decide) h1 (fun _ _ => ⟨_, rfl⟩) dX0_countGates_22 (fun z6 => ?_)
      have h2 : qv_is _ T 6 2 (qv_rf T (qv_rf T t 1) v4.toNatClampNeg) := h1.to _ (by decide) (qv_inb_lt z6) rfl
      refine qv_astore (pc := 23) (lv1 := [(5, .ref (X.2.2.2 + (qv_rf T (qv_rf T t 1) v4.toNatClampNeg))), (1, .int v3), (2, .ref (X.2.2.2 + (qv_rf T t 1))), (3, .int 3), (4, .int v4)]) g dX0_countGates_23 (by decide) rfl ?_
      refine qv_iload_n (pc := 25) g dX0_countGates_25 rfl rfl ?_
      refine qv_aload (pc := 26) g dX0_countGates_26 rfl ?_
      refine qv_gets (pc := 28) g fw_RX0_42 h2 (by decide) (by decide) rfl dX0_countGates_28 (fun v7 => ?_)
      refine qv_iadd (pc := 31) g dX0_countGates_31 ?_
      refine qv_istore_n (pc := 32) (lv1 := [(1, .int (v3 + v7)), (5, .ref (X.2.2.2 + (qv_rf T (qv_rf T t 1) v4.toNatClampNeg))), (2, .ref (X.2.2.2 + (qv_rf T t 1))), (3, .int 3), (4, .int v4)]) g dX0_countGates_32 rfl (by decide) rfl ?_
      refine qv_iinc (pc := 33) (v := (v4 + 1)) (lv1 := [(4, .int (v4 + 1)), (1, .int (v3 + v7)), (5, .ref (X.2.2.2 + (qv_rf T (qv_rf T t 1) v4.toNatClampNeg))), (2, .ref (X.2.2.2 + (qv_rf T t 1))), (3, .int 3)]) g dX0_countGates_33 rfl rfl (by decide) rfl ?_
      refine qv_goto (pc := 36) (tgt := 13) g dX0_countGates_36 (by decide) ?_
      refine qv_lv [1, 3, 4, 0] rfl ?_
      exact qr5 _ _) _ _ _

set_option maxHeartbeats 4000000 in
set_option maxRecDepth 100000 in
theorem c_X9_image (l : Launch) (X : qv_X) (d : Nat) (T : List qv_Ent) (t : Nat) (M : qv_Mem) {nt : Nat} (ht : qv_is (nt + 4) T 9 14 t) : qv_Ok l X yX9_image cX9_image 1 (some .int) (d + 2) T M [.ref (X.2.2.2 + t)] qv_eIM (f_X9_image T t M) := by
  refine qv_mk (lv := [(0, .ref (X.2.2.2 + t))]) (by decide) (Nat.le_of_ble_eq_true rfl) rfl (fun G hG hRm g hr => ?_)
  have g : qv_ok G X cX9_image RX9 1 := g
  unfold f_X9_image
  refine qv_aload_n (pc := 0) g dX9_image_0 rfl rfl ?_
  have h1 : qv_is _ T 0 3 (qv_rf T t 1) := ht.to 1 (by decide) (by decide) rfl
  refine qv_getr (pc := 1) g fw_RX9_18 ht (by decide) (by decide) rfl dX9_image_1 ?_
  refine qv_aload_n (pc := 4) g dX9_image_4 rfl rfl ?_
  have h2 : qv_is _ T 0 3 (qv_rf T t 0) := ht.to 0 (by decide) (by decide) rfl
  refine qv_getr (pc := 5) g fw_RX9_12 ht (by decide) (by decide) rfl dX9_image_5 ?_
  refine qv_aV (qv_cv (pc := 8) g (c_X0_makeCopy (gl G) X d T _ _ M h1 h2) (qv_R hRm (by omega) (by decide)) ⟨Nat.zero_le _, Nat.zero_le _⟩ mw_X0_makeCopy lk_RX9_255 im_X0_makeCopy se_X0_makeCopy (by decide) rfl h1 pd_X0_makeCopy rfl (Nat.le_of_ble_eq_true rfl) dX9_image_8) (fun M1 => ?_)
  refine qv_aload_n (pc := 11) g dX9_image_11 rfl rfl ?_
  refine qv_iconst (v := 1) (pc := 12) g dX9_image_12 (by decide) ?_
  refine qv_putz (pc := 13) g pw_RX9_21 ht (by decide) (by decide) rfl dX9_image_13 (fun M2 => ?_)
  refine qv_aload_n (pc := 16) g dX9_image_16 rfl rfl ?_
  refine qv_getr (pc := 17) g fw_RX9_12 ht (by decide) (by decide) rfl dX9_image_17 ?_
  refine qv_aI rfl (qv_cv (pc := 20) g (c_X0_countGates (gl G) X (d + 1) T _ M2 h2) (qv_R hRm (by omega) (by decide)) ⟨Nat.zero_le _, Nat.zero_le _⟩ mw_X0_countGates lk_RX9_258 im_X0_countGates se_X0_countGates (by decide) rfl h2 pd_X0_countGates rfl (Nat.le_of_ble_eq_true rfl) dX9_image_20) (fun v3 => ?_)
  exact qv_iret (pc := 23) g hr rfl dX9_image_23

set_option maxHeartbeats 4000000 in
set_option maxRecDepth 100000 in
theorem c_X9_restore (l : Launch) (X : qv_X) (d : Nat) (T : List qv_Ent) (t : Nat) (M : qv_Mem) {nt : Nat} (ht : qv_is (nt + 4) T 9 14 t) : qv_Ok l X yX9_restore cX9_restore 1 (some .int) (d + 2) T M [.ref (X.2.2.2 + t)] qv_eIM (f_X9_restore T t M) := by
  refine qv_mk (lv := [(0, .ref (X.2.2.2 + t))]) (by decide) (Nat.le_of_ble_eq_true rfl) rfl (fun G hG hRm g hr => ?_)
  have g : qv_ok G X cX9_restore RX9 1 := g
  unfold f_X9_restore
  refine qv_aload_n (pc := 0) g dX9_restore_0 rfl rfl ?_
  refine qv_gets (pc := 1) g fw_RX9_21 ht (by decide) (by decide) rfl dX9_restore_1 (fun v1 => ?_)
  refine qv_if_ne (pc := 4) (tgt := 10) g dX9_restore_4 (by decide) ?_ ?_
  · refine qv_aload_n (pc := 10) g dX9_restore_10 rfl rfl ?_
    have h1 : qv_is _ T 0 3 (qv_rf T t 0) := ht.to 0 (by decide) (by decide) rfl
    refine qv_getr (pc := 11) g fw_RX9_12 ht (by decide) (by decide) rfl dX9_restore_11 ?_
    refine qv_aload_n (pc := 14) g dX9_restore_14 rfl rfl ?_
    have h2 : qv_is _ T 0 3 (qv_rf T t 1) := ht.to 1 (by decide) (by decide) rfl
    refine qv_getr (pc := 15) g fw_RX9_18 ht (by decide) (by decide) rfl dX9_restore_15 ?_
    refine qv_aV (qv_cv (pc := 18) g (c_X0_makeCopy (gl G) X d T _ _ M h1 h2) (qv_R hRm (by omega) (by decide)) ⟨Nat.zero_le _, Nat.zero_le _⟩ mw_X0_makeCopy lk_RX9_255 im_X0_makeCopy se_X0_makeCopy (by decide) rfl h1 pd_X0_makeCopy rfl (Nat.le_of_ble_eq_true rfl) dX9_restore_18) (fun M2 => ?_)
    refine qv_aload_n (pc := 21) g dX9_restore_21 rfl rfl ?_
    have h3 : qv_is _ T 3 4 (qv_rf T t 3) := ht.to 3 (by decide) (by decide) rfl
    refine qv_getr (pc := 22) g fw_RX9_28 ht (by decide) (by decide) rfl dX9_restore_22 ?_
    refine qv_iconst (v := 0) (pc := 25) g dX9_restore_25 (by decide) ?_
    refine qv_puti (pc := 26) g pw_RX9_240 h3 (by decide) (by decide) rfl dX9_restore_26 (fun M3 => ?_)
    refine qv_aload_n (pc := 29) g dX9_restore_29 rfl rfl ?_
    refine qv_getr (pc := 30) g fw_RX9_12 ht (by decide) (by decide) rfl dX9_restore_30 ?_
    refine qv_aI rfl (qv_cv (pc := 33) g (c_X0_countGates (gl G) X (d + 1) T _ M3 h1) (qv_R hRm (by omega) (by decide)) ⟨Nat.zero_le _, Nat.zero_le _⟩ mw_X0_countGates lk_RX9_258 im_X0_countGates se_X0_countGates (by decide) rfl h1 pd_X0_countGates rfl (Nat.le_of_ble_eq_true rfl) dX9_restore_33) (fun v4 => ?_)
    exact qv_iret (pc := 36) g hr rfl dX9_restore_36
  · refine qv_bipush (v := (-5)) (pc := 7) g dX9_restore_7 (by decide) ?_
    exact qv_iret (pc := 9) g hr rfl dX9_restore_9

set_option maxHeartbeats 4000000 in
set_option maxRecDepth 100000 in
theorem c_X0_sumPrices (l : Launch) (X : qv_X) (d : Nat) (T : List qv_Ent) (t : Nat) (M : qv_Mem) {nt : Nat} (ht : qv_is (nt + 3) T 0 3 t) : qv_Ok l X yX0_sumPrices cX0_sumPrices 6 (some .int) (d) T M [.ref (X.2.2.2 + t)] (qv_eI M) (f_X0_sumPrices T t M) := by
  refine qv_mk (lv := [(0, .ref (X.2.2.2 + t))]) (by decide) (Nat.le_of_ble_eq_true rfl) rfl (fun G hG hRm g hr => ?_)
  have g : qv_ok G X cX0_sumPrices RX0 6 := g
  unfold f_X0_sumPrices
  refine qv_iconst (v := 0) (pc := 0) g dX0_sumPrices_0 (by decide) ?_
  refine qv_istore_n (pc := 1) (lv1 := [(1, .int 0), (0, .ref (X.2.2.2 + t))]) g dX0_sumPrices_1 rfl (by decide) rfl ?_
  refine qv_aload_n (pc := 2) g dX0_sumPrices_2 rfl rfl ?_
  have h1 : qv_is _ T 20 7 (qv_rf T t 2) := ht.to 2 (by decide) (by decide) rfl
  refine qv_getr (pc := 3) g fw_RX0_23 ht (by decide) (by decide) rfl dX0_sumPrices_3 ?_
  refine qv_astore_n (pc := 6) (lv1 := [(2, .ref (X.2.2.2 + (qv_rf T t 2))), (1, .int 0), (0, .ref (X.2.2.2 + t))]) g dX0_sumPrices_6 rfl (by decide) rfl ?_
  refine qv_aload_n (pc := 7) g dX0_sumPrices_7 rfl rfl ?_
  refine qv_alen (pc := 8) (v := 7) g (by decide) h1 (by decide) dX0_sumPrices_8 ?_
  refine qv_istore_n (pc := 9) (lv1 := [(3, .int 7), (2, .ref (X.2.2.2 + (qv_rf T t 2))), (1, .int 0), (0, .ref (X.2.2.2 + t))]) g dX0_sumPrices_9 rfl (by decide) rfl ?_
  refine qv_iconst (v := 0) (pc := 10) g dX0_sumPrices_10 (by decide) ?_
  refine qv_istore (pc := 11) (lv1 := [(4, .int 0), (3, .int 7), (2, .ref (X.2.2.2 + (qv_rf T t 2))), (1, .int 0), (0, .ref (X.2.2.2 + t))]) g dX0_sumPrices_11 (by decide) rfl ?_
  refine qv_join (fun (k2 : Int32 → Option Int32) => ∀ (v1 : Int32), qv_V G X 6 (qv_QM G X T (qv_eI M) (0, 0)) T (0, 0) 36 [(1, .int v1)] [] M (k2 v1)) (fun v1 => ?_) (fun k2 qk2 => ?_)
  · refine qv_iload_n (pc := 36) g dX0_sumPrices_36 rfl rfl ?_
    exact qv_iret (pc := 37) g hr rfl dX0_sumPrices_37
  refine qv_lv [3, 2, 1, 0] rfl ?_
  exact qv_L2 (Vh := fun (v3 : Int32) (v4 : Int32) o => qv_V G X 6 (qv_QM G X T (qv_eI M) (0, 0)) T (0, 0) 13 [(1, .int v3), (2, .ref (X.2.2.2 + (qv_rf T t 2))), (3, .int 7), (4, .int v4)] [] M o) (fun _ _ => qv_none) (fun r5 qr5 v3 v4 => by
    unfold b_X0_sumPrices_13
    refine qv_iload (pc := 13) g dX0_sumPrices_13 rfl ?_
    refine qv_iload_n (pc := 15) g dX0_sumPrices_15 rfl rfl ?_
    refine qv_icmp_ge (pc := 16) (tgt := 36) g dX0_sumPrices_16 (by decide) ?_ ?_
    · refine qv_lv [0] rfl ?_
      exact qk2 _
    · refine qv_aload_n (pc := 19) g dX0_sumPrices_19 rfl rfl ?_
      refine qv_iload (pc := 20) g dX0_sumPrices_20 rfl ?_
      refine qv_iald (pc := 22) g h1 dX0_sumPrices_22 (fun v6 => ?_)
      refine qv_istore (pc := 23) (lv1 := [(5, .int v6), (1, .int v3), (2, .ref (X.2.2.2 + (qv_rf T t 2))), (3, .int 7), (4, .int v4)]) g dX0_sumPrices_23 (by decide) rfl ?_
      refine qv_iload_n (pc := 25) g dX0_sumPrices_25 rfl rfl ?_
      refine qv_iload (pc := 26) g dX0_sumPrices_26 rfl ?_
      refine qv_iadd (pc := 28) g dX0_sumPrices_28 ?_
      refine qv_istore_n (pc := 29) (lv1 := [(1, .int (v3 + v6)), (5, .int v6), (2, .ref (X.2.2.2 + (qv_rf T t 2))), (3, .int 7), (4, .int v4)]) g dX0_sumPrices_29 rfl (by decide) rfl ?_
      refine qv_iinc (pc := 30) (v := (v4 + 1)) (lv1 := [(4, .int (v4 + 1)), (1, .int (v3 + v6)), (5, .int v6), (2, .ref (X.2.2.2 + (qv_rf T t 2))), (3, .int 7)]) g dX0_sumPrices_30 rfl rfl (by decide) rfl ?_
      refine qv_goto (pc := 33) (tgt := 13) g dX0_sumPrices_33 (by decide) ?_
      refine qv_lv [1, 3, 4, 0] rfl ?_
      exact qr5 _ _) _ _ _

set_option maxHeartbeats 4000000 in
set_option maxRecDepth 100000 in
theorem c_X6_countOf (l : Launch) (X : qv_X) (d : Nat) (T : List qv_Ent) (t : Nat) (p1 : Int32) (M : qv_Mem) {nt : Nat} (ht : qv_is (nt + 1) T 6 2 t) : qv_Ok l X yX6_countOf cX6_countOf 4 (some .int) (d) T M [.ref (X.2.2.2 + t), .int p1] (qv_eI M) (f_X6_countOf T t p1 M) := by
  refine qv_mk (lv := [(0, .ref (X.2.2.2 + t)), (1, .int p1)]) (by decide) (Nat.le_of_ble_eq_true rfl) rfl (fun G hG hRm g hr => ?_)
  have g : qv_ok G X cX6_countOf RX6 4 := g
  unfold f_X6_countOf
  refine qv_iconst (v := 0) (pc := 0) g dX6_countOf_0 (by decide) ?_
  refine qv_istore_n (pc := 1) (lv1 := [(2, .int 0), (0, .ref (X.2.2.2 + t)), (1, .int p1)]) g dX6_countOf_1 rfl (by decide) rfl ?_
  refine qv_iconst (v := 0) (pc := 2) g dX6_countOf_2 (by decide) ?_
  refine qv_istore_n (pc := 3) (lv1 := [(3, .int 0), (2, .int 0), (0, .ref (X.2.2.2 + t)), (1, .int p1)]) g dX6_countOf_3 rfl (by decide) rfl ?_
  refine qv_join (fun (k2 : Int32 → Option Int32) => ∀ (v1 : Int32), qv_V G X 4 (qv_QM G X T (qv_eI M) (0, 0)) T (0, 0) 31 [(2, .int v1)] [] M (k2 v1)) (fun v1 => ?_) (fun k2 qk2 => ?_)
  · refine qv_iload_n (pc := 31) g dX6_countOf_31 rfl rfl ?_
    exact qv_iret (pc := 32) g hr rfl dX6_countOf_32
  refine qv_lv [2, 3, 1, 0] rfl ?_
  exact qv_L2 (Vh := fun (v3 : Int32) (v4 : Int32) o => qv_V G X 4 (qv_QM G X T (qv_eI M) (0, 0)) T (0, 0) 4 [(0, .ref (X.2.2.2 + t)), (1, .int p1), (2, .int v3), (3, .int v4)] [] M o) (fun _ _ => qv_none) (fun r5 qr5 v3 v4 => by
    unfold b_X6_countOf_4
    refine qv_iload_n (pc := 4) g dX6_countOf_4 rfl rfl ?_
    refine qv_aload_n (pc := 5) g dX6_countOf_5 rfl rfl ?_
    refine qv_gets (pc := 6) g fw_RX6_15 ht (by decide) (by decide) rfl dX6_countOf_6 (fun v6 => ?_)
    refine qv_icmp_ge (pc := 9) (tgt := 31) g dX6_countOf_9 (by decide) ?_ ?_
    · refine qv_lv [2] rfl ?_
      exact qk2 _
    · refine qv_aload_n (pc := 12) g dX6_countOf_12 rfl rfl ?_
      have h1 : qv_is _ T 20 60 (qv_rf T t 0) := ht.to 0 (by decide) (by decide) rfl
      refine qv_getr (pc := 13) g fw_RX6_9 ht (by decide) (by decide) rfl dX6_countOf_13 ?_
      refine qv_iload_n (pc := 16) g dX6_countOf_16 rfl rfl ?_
      refine qv_iald (pc := 17) g h1 dX6_countOf_17 (fun v7 => ?_)
      refine qv_iload_n (pc := 18) g dX6_countOf_18 rfl rfl ?_
      refine qv_join (fun (k9 : Int32 → Option Int32) => ∀ (v8 : Int32), qv_V G X 4 (qv_QM G X T (qv_eI M) (0, 0)) T (0, 0) 25 [(0, .ref (X.2.2.2 + t)), (1, .int p1), (2, .int v8), (3, .int v4)] [] M (k9 v8)) (fun v8 => ?_) (fun k9 qk9 => ?_)
      · refine qv_iinc (pc := 25) (v := (v4 + 1)) (lv1 := [(3, .int (v4 + 1)), (0, .ref (X.2.2.2 + t)), (1, .int p1), (2, .int v8)]) g dX6_countOf_25 rfl rfl (by decide) rfl ?_
        refine qv_goto (pc := 28) (tgt := 4) g dX6_countOf_28 (by decide) ?_
        refine qv_lv [1, 2, 3, 0] rfl ?_
        exact qr5 _ _
      refine qv_icmp_ne (pc := 19) (tgt := 25) g dX6_countOf_19 (by decide) ?_ ?_
      · exact qk9 _
      · refine qv_iinc (pc := 22) (v := (v3 + 1)) (lv1 := [(2, .int (v3 + 1)), (0, .ref (X.2.2.2 + t)), (1, .int p1), (3, .int v4)]) g dX6_countOf_22 rfl rfl (by decide) rfl ?_
        refine qv_lv [1, 2, 0, 3] rfl ?_
        exact qk9 _) _ _ _

set_option maxHeartbeats 4000000 in
set_option maxRecDepth 100000 in
theorem c_X0_countGate (l : Launch) (X : qv_X) (d : Nat) (T : List qv_Ent) (t : Nat) (p1 : Int32) (M : qv_Mem) {nt : Nat} (ht : qv_is (nt + 3) T 0 3 t) : qv_Ok l X yX0_countGate cX0_countGate 7 (some .int) (d + 1) T M [.ref (X.2.2.2 + t), .int p1] (qv_eI M) (f_X0_countGate T t p1 M) := by
  refine qv_mk (lv := [(0, .ref (X.2.2.2 + t)), (1, .int p1)]) (by decide) (Nat.le_of_ble_eq_true rfl) rfl (fun G hG hRm g hr => ?_)
  have g : qv_ok G X cX0_countGate RX0 7 := g
  unfold f_X0_countGate
  refine qv_iconst (v := 0) (pc := 0) g dX0_countGate_0 (by decide) ?_
  refine qv_istore_n (pc := 1) (lv1 := [(2, .int 0), (0, .ref (X.2.2.2 + t)), (1, .int p1)]) g dX0_countGate_1 rfl (by decide) rfl ?_
  refine qv_aload_n (pc := 2) g dX0_countGate_2 rfl rfl ?_
  have h1 : qv_is _ T 36 3 (qv_rf T t 1) := ht.to 1 (by decide) (by decide) rfl
  refine qv_getr (pc := 3) g fw_RX0_19 ht (by decide) (by decide) rfl dX0_countGate_3 ?_
  refine qv_astore_n (pc := 6) (lv1 := [(3, .ref (X.2.2.2 + (qv_rf T t 1))), (2, .int 0), (0, .ref (X.2.2.2 + t)), (1, .int p1)]) g dX0_countGate_6 rfl (by decide) rfl ?_
  refine qv_aload_n (pc := 7) g dX0_countGate_7 rfl rfl ?_
  refine qv_alen (pc := 8) (v := 3) g (by decide) h1 (by decide) dX0_countGate_8 ?_
  refine qv_istore (pc := 9) (lv1 := [(4, .int 3), (3, .ref (X.2.2.2 + (qv_rf T t 1))), (2, .int 0), (0, .ref (X.2.2.2 + t)), (1, .int p1)]) g dX0_countGate_9 (by decide) rfl ?_
  refine qv_iconst (v := 0) (pc := 11) g dX0_countGate_11 (by decide) ?_
  refine qv_istore (pc := 12) (lv1 := [(5, .int 0), (4, .int 3), (3, .ref (X.2.2.2 + (qv_rf T t 1))), (2, .int 0), (0, .ref (X.2.2.2 + t)), (1, .int p1)]) g dX0_countGate_12 (by decide) rfl ?_
  refine qv_join (fun (k2 : Int32 → Option Int32) => ∀ (v1 : Int32), qv_V G X 7 (qv_QM G X T (qv_eI M) (0, 0)) T (0, 0) 42 [(2, .int v1)] [] M (k2 v1)) (fun v1 => ?_) (fun k2 qk2 => ?_)
  · refine qv_iload_n (pc := 42) g dX0_countGate_42 rfl rfl ?_
    exact qv_iret (pc := 43) g hr rfl dX0_countGate_43
  refine qv_lv [5, 3, 2, 1, 0] rfl ?_
  exact qv_L2 (Vh := fun (v3 : Int32) (v4 : Int32) o => qv_V G X 7 (qv_QM G X T (qv_eI M) (0, 0)) T (0, 0) 14 [(1, .int p1), (2, .int v3), (3, .ref (X.2.2.2 + (qv_rf T t 1))), (4, .int 3), (5, .int v4)] [] M o) (fun _ _ => qv_none) (fun r5 qr5 v3 v4 => by
    unfold b_X0_countGate_14
    refine qv_iload (pc := 14) g dX0_countGate_14 rfl ?_
    refine qv_iload (pc := 16) g dX0_countGate_16 rfl ?_
    refine qv_icmp_ge (pc := 18) (tgt := 42) g dX0_countGate_18 (by decide) ?_ ?_
    · refine qv_lv [1] rfl ?_
      exact qk2 _
    · refine qv_aload_n (pc := 21) g dX0_countGate_21 rfl rfl ?_
      refine qv_iload (pc := 22) g dX0_countGate_22 rfl ?_
      refine qv_aald (pc := 24) g (by decide) h1 (fun _ _ => ⟨_, rfl⟩) dX0_countGate_24 (fun z6 => ?_)
      have h2 : qv_is _ T 6 2 (qv_rf T (qv_rf T t 1) v4.toNatClampNeg) := h1.to _ (by decide) (qv_inb_lt z6) rfl
      refine qv_astore (pc := 25) (lv1 := [(6, .ref (X.2.2.2 + (qv_rf T (qv_rf T t 1) v4.toNatClampNeg))), (1, .int p1), (2, .int v3), (3, .ref (X.2.2.2 + (qv_rf T t 1))), (4, .int 3), (5, .int v4)]) g dX0_countGate_25 (by decide) rfl ?_
      refine qv_iload_n (pc := 27) g dX0_countGate_27 rfl rfl ?_
      refine qv_aload (pc := 28) g dX0_countGate_28 rfl ?_
      refine qv_iload_n (pc := 30) g dX0_countGate_30 rfl rfl ?_
      refine qv_aI rfl (qv_cv (pc := 31) g (c_X6_countOf (gl G) X d T _ _ M h2) (qv_R hRm (by omega) (by decide)) ⟨Nat.zero_le _, Nat.zero_le _⟩ mw_X6_countOf lk_RX0_46 im_X6_countOf se_X6_countOf (by decide) rfl h2 pd_X6_countOf rfl (Nat.le_of_ble_eq_true rfl) dX0_countGate_31) (fun v7 => ?_)
      refine qv_iadd (pc := 34) g dX0_countGate_34 ?_
      refine qv_istore_n (pc := 35) (lv1 := [(2, .int (v3 + v7)), (6, .ref (X.2.2.2 + (qv_rf T (qv_rf T t 1) v4.toNatClampNeg))), (1, .int p1), (3, .ref (X.2.2.2 + (qv_rf T t 1))), (4, .int 3), (5, .int v4)]) g dX0_countGate_35 rfl (by decide) rfl ?_
      refine qv_iinc (pc := 36) (v := (v4 + 1)) (lv1 := [(5, .int (v4 + 1)), (2, .int (v3 + v7)), (6, .ref (X.2.2.2 + (qv_rf T (qv_rf T t 1) v4.toNatClampNeg))), (1, .int p1), (3, .ref (X.2.2.2 + (qv_rf T t 1))), (4, .int 3)]) g dX0_countGate_36 rfl rfl (by decide) rfl ?_
      refine qv_goto (pc := 39) (tgt := 14) g dX0_countGate_39 (by decide) ?_
      refine qv_lv [3, 1, 4, 5, 0] rfl ?_
      exact qr5 _ _) _ _ _

set_option maxHeartbeats 4000000 in
set_option maxRecDepth 100000 in
theorem c_X9_told (l : Launch) (X : qv_X) (d : Nat) (T : List qv_Ent) (t : Nat) (p1 : Int32) (M : qv_Mem) {nt : Nat} (ht : qv_is (nt + 4) T 9 14 t) : qv_Ok l X yX9_told cX9_told 2 (some .int) (d + 2) T M [.ref (X.2.2.2 + t), .int p1] (qv_eI M) (f_X9_told T t p1 M) := by
  refine qv_mk (lv := [(0, .ref (X.2.2.2 + t)), (1, .int p1)]) (by decide) (Nat.le_of_ble_eq_true rfl) rfl (fun G hG hRm g hr => ?_)
  have g : qv_ok G X cX9_told RX9 2 := g
  unfold f_X9_told
  refine qv_iload_n (pc := 0) g dX9_told_0 rfl rfl ?_
  refine qv_ite _ (fun e2 => ?_) (fun n3 => ?_)
  · refine qv_tabI (pc := 1) (tgt := 28) g dX9_told_1 (by rw [e2]; decide) (by rw [e2]; decide) (by rw [e2]; rfl) (by decide) ?_
    refine qv_aload_n (pc := 28) g dX9_told_28 rfl rfl ?_
    have h1 : qv_is _ T 3 4 (qv_rf T t 3) := ht.to 3 (by decide) (by decide) rfl
    refine qv_getr (pc := 29) g fw_RX9_28 ht (by decide) (by decide) rfl dX9_told_29 ?_
    refine qv_gets (pc := 32) g fw_RX9_240 h1 (by decide) (by decide) rfl dX9_told_32 (fun v1 => ?_)
    exact qv_iret (pc := 35) g hr rfl dX9_told_35
  refine qv_ite _ (fun e5 => ?_) (fun n6 => ?_)
  · refine qv_tabI (pc := 1) (tgt := 36) g dX9_told_1 (by rw [e5]; decide) (by rw [e5]; decide) (by rw [e5]; rfl) (by decide) ?_
    refine qv_aload_n (pc := 36) g dX9_told_36 rfl rfl ?_
    have h2 : qv_is _ T 8 2 (qv_rf T t 4) := ht.to 4 (by decide) (by decide) rfl
    refine qv_getr (pc := 37) g fw_RX9_35 ht (by decide) (by decide) rfl dX9_told_37 ?_
    refine qv_gets (pc := 40) g fw_RX9_246 h2 (by decide) (by decide) rfl dX9_told_40 (fun v4 => ?_)
    exact qv_iret (pc := 43) g hr rfl dX9_told_43
  refine qv_ite _ (fun e8 => ?_) (fun n9 => ?_)
  · refine qv_tabI (pc := 1) (tgt := 44) g dX9_told_1 (by rw [e8]; decide) (by rw [e8]; decide) (by rw [e8]; rfl) (by decide) ?_
    refine qv_aload_n (pc := 44) g dX9_told_44 rfl rfl ?_
    have h3 : qv_is _ T 0 3 (qv_rf T t 0) := ht.to 0 (by decide) (by decide) rfl
    refine qv_getr (pc := 45) g fw_RX9_12 ht (by decide) (by decide) rfl dX9_told_45 ?_
    refine qv_aI rfl (qv_cv (pc := 48) g (c_X0_sumPrices (gl G) X (d + 1) T _ M h3) (qv_R hRm (by omega) (by decide)) ⟨Nat.zero_le _, Nat.zero_le _⟩ mw_X0_sumPrices lk_RX9_261 im_X0_sumPrices se_X0_sumPrices (by decide) rfl h3 pd_X0_sumPrices rfl (Nat.le_of_ble_eq_true rfl) dX9_told_48) (fun v7 => ?_)
    exact qv_iret (pc := 51) g hr rfl dX9_told_51
  refine qv_tabD (pc := 1) (tgt := 52) (cl := [0, 1, 2]) (n := 3) g dX9_told_1 (by decide) (by decide) (by simp [n3, n6, n9]) (by decide) ?_
  refine qv_iload_n (pc := 52) g dX9_told_52 rfl rfl ?_
  refine qv_iconst (v := 3) (pc := 53) g dX9_told_53 (by decide) ?_
  refine qv_isub (pc := 54) g dX9_told_54 ?_
  refine qv_aI rfl (qv_cs (pc := 55) g (c_X9_isGate (gl G) X d T _ M) (qv_R hRm (by omega) (by decide)) ⟨Nat.zero_le _, Nat.zero_le _⟩ mw_X9_isGate lk_RX9_105 st_X9_isGate pd_X9_isGate rfl (Nat.le_of_ble_eq_true rfl) dX9_told_55) (fun v10 => ?_)
  refine qv_if_eq (pc := 58) (tgt := 74) g dX9_told_58 (by decide) ?_ ?_
  · refine qv_iconst (v := (-1)) (pc := 74) g dX9_told_74 (by decide) ?_
    exact qv_iret (pc := 75) g hr rfl dX9_told_75
  · refine qv_aload_n (pc := 61) g dX9_told_61 rfl rfl ?_
    have h4 : qv_is _ T 0 3 (qv_rf T t 0) := ht.to 0 (by decide) (by decide) rfl
    refine qv_getr (pc := 62) g fw_RX9_12 ht (by decide) (by decide) rfl dX9_told_62 ?_
    refine qv_iload_n (pc := 65) g dX9_told_65 rfl rfl ?_
    refine qv_iconst (v := 3) (pc := 66) g dX9_told_66 (by decide) ?_
    refine qv_isub (pc := 67) g dX9_told_67 ?_
    refine qv_aI rfl (qv_cv (pc := 68) g (c_X0_countGate (gl G) X d T _ _ M h4) (qv_R hRm (by omega) (by decide)) ⟨Nat.zero_le _, Nat.zero_le _⟩ mw_X0_countGate lk_RX9_264 im_X0_countGate se_X0_countGate (by decide) rfl h4 pd_X0_countGate rfl (Nat.le_of_ble_eq_true rfl) dX9_told_68) (fun v11 => ?_)
    refine qv_goto (pc := 71) (tgt := 75) g dX9_told_71 (by decide) ?_
    exact qv_iret (pc := 75) g hr rfl dX9_told_75

set_option maxHeartbeats 4000000 in
set_option maxRecDepth 100000 in
theorem c_X10_number (l : Launch) (X : qv_X) (d : Nat) (T : List qv_Ent) (t : Nat) (p1 : Int32) (p2 : Int32) (p3 : Int32) (p4 : Int64) (M : qv_Mem) {nt : Nat} (ht : qv_is (nt + 1) T 10 29 t) : qv_Ok l X yX10_number cX10_number 6 none (d) T M [.ref (X.2.2.2 + t), .int p1, .int p2, .int p3, .long p4] qv_eV (f_X10_number T t p1 p2 p3 p4 M) := by
  refine qv_mk (lv := [(0, .ref (X.2.2.2 + t)), (1, .int p1), (2, .int p2), (3, .int p3), (4, .long p4)]) (by decide) (Nat.le_of_ble_eq_true rfl) rfl (fun G hG hRm g hr => ?_)
  have g : qv_ok G X cX10_number RX10 6 := g
  unfold f_X10_number
  refine qv_aload_n (pc := 0) g dX10_number_0 rfl rfl ?_
  have h1 : qv_is _ T 21 340 (qv_rf T t 0) := ht.to 0 (by decide) (by decide) rfl
  refine qv_getr (pc := 1) g fw_RX10_11 ht (by decide) (by decide) rfl dX10_number_1 ?_
  refine qv_bipush (v := 17) (pc := 4) g dX10_number_4 (by decide) ?_
  refine qv_iload_n (pc := 6) g dX10_number_6 rfl rfl ?_
  refine qv_imul (pc := 7) g dX10_number_7 ?_
  refine qv_iconst (v := 4) (pc := 8) g dX10_number_8 (by decide) ?_
  refine qv_iload_n (pc := 9) g dX10_number_9 rfl rfl ?_
  refine qv_imul (pc := 10) g dX10_number_10 ?_
  refine qv_iadd (pc := 11) g dX10_number_11 ?_
  refine qv_iload_n (pc := 12) g dX10_number_12 rfl rfl ?_
  refine qv_iadd (pc := 13) g dX10_number_13 ?_
  refine qv_lload (pc := 14) g dX10_number_14 rfl ?_
  refine qv_last (pc := 16) g h1 dX10_number_16 (fun M1 => ?_)
  exact qv_vret (pc := 17) g hr rfl dX10_number_17

set_option maxHeartbeats 4000000 in
set_option maxRecDepth 100000 in
theorem c_X10_copies (l : Launch) (X : qv_X) (d : Nat) (T : List qv_Ent) (t : Nat) (p1 : Int32) (p2 : Int32) (M : qv_Mem) {nt : Nat} (ht : qv_is (nt + 1) T 10 29 t) : qv_Ok l X yX10_copies cX10_copies 4 none (d) T M [.ref (X.2.2.2 + t), .int p1, .int p2] qv_eV (f_X10_copies T t p1 p2 M) := by
  refine qv_mk (lv := [(0, .ref (X.2.2.2 + t)), (1, .int p1), (2, .int p2)]) (by decide) (Nat.le_of_ble_eq_true rfl) rfl (fun G hG hRm g hr => ?_)
  have g : qv_ok G X cX10_copies RX10 4 := g
  unfold f_X10_copies
  refine qv_iconst (v := 0) (pc := 0) g dX10_copies_0 (by decide) ?_
  refine qv_istore_n (pc := 1) (lv1 := [(3, .int 0), (0, .ref (X.2.2.2 + t)), (1, .int p1), (2, .int p2)]) g dX10_copies_1 rfl (by decide) rfl ?_
  refine qv_join (fun (k2 : qv_Mem → Option qv_Mem) => ∀ (M1 : qv_Mem), qv_V G X 4 (qv_QM G X T qv_eV (0, 0)) T (0, 0) 36 [] [] M1 (k2 M1)) (fun M1 => ?_) (fun k2 qk2 => ?_)
  · exact qv_vret (pc := 36) g hr rfl dX10_copies_36
  refine qv_lv [1, 2, 3, 0] rfl ?_
  exact qv_L2 (Vh := fun (v3 : Int32) (M4 : qv_Mem) o => qv_V G X 4 (qv_QM G X T qv_eV (0, 0)) T (0, 0) 2 [(0, .ref (X.2.2.2 + t)), (1, .int p1), (2, .int p2), (3, .int v3)] [] M4 o) (fun _ _ => qv_none) (fun r5 qr5 v3 M4 => by
    unfold b_X10_copies_2
    refine qv_iload_n (pc := 2) g dX10_copies_2 rfl rfl ?_
    refine qv_bipush (v := 17) (pc := 3) g dX10_copies_3 (by decide) ?_
    refine qv_icmp_ge (pc := 5) (tgt := 36) g dX10_copies_5 (by decide) ?_ ?_
    · refine qv_lv [] rfl ?_
      exact qk2 _
    · refine qv_aload_n (pc := 8) g dX10_copies_8 rfl rfl ?_
      have h1 : qv_is _ T 21 340 (qv_rf T t 0) := ht.to 0 (by decide) (by decide) rfl
      refine qv_getr (pc := 9) g fw_RX10_11 ht (by decide) (by decide) rfl dX10_copies_9 ?_
      refine qv_bipush (v := 17) (pc := 12) g dX10_copies_12 (by decide) ?_
      refine qv_iload_n (pc := 14) g dX10_copies_14 rfl rfl ?_
      refine qv_imul (pc := 15) g dX10_copies_15 ?_
      refine qv_iload_n (pc := 16) g dX10_copies_16 rfl rfl ?_
      refine qv_iadd (pc := 17) g dX10_copies_17 ?_
      refine qv_aload_n (pc := 18) g dX10_copies_18 rfl rfl ?_
      refine qv_getr (pc := 19) g fw_RX10_11 ht (by decide) (by decide) rfl dX10_copies_19 ?_
      refine qv_bipush (v := 17) (pc := 22) g dX10_copies_22 (by decide) ?_
      refine qv_iload_n (pc := 24) g dX10_copies_24 rfl rfl ?_
      refine qv_imul (pc := 25) g dX10_copies_25 ?_
      refine qv_iload_n (pc := 26) g dX10_copies_26 rfl rfl ?_
      refine qv_iadd (pc := 27) g dX10_copies_27 ?_
      refine qv_lald (pc := 28) g h1 dX10_copies_28 (fun v6 => ?_)
      refine qv_last (pc := 29) g h1 dX10_copies_29 (fun M7 => ?_)
      refine qv_iinc (pc := 30) (v := (v3 + 1)) (lv1 := [(3, .int (v3 + 1)), (0, .ref (X.2.2.2 + t)), (1, .int p1), (2, .int p2)]) g dX10_copies_30 rfl rfl (by decide) rfl ?_
      refine qv_goto (pc := 33) (tgt := 2) g dX10_copies_33 (by decide) ?_
      refine qv_lv [1, 2, 3, 0] rfl ?_
      exact qr5 _ _) _ _ _

set_option maxHeartbeats 4000000 in
set_option maxRecDepth 100000 in
theorem c_X10_gates (l : Launch) (X : qv_X) (d : Nat) (T : List qv_Ent) (t : Nat) (M : qv_Mem) {nt : Nat} (ht : qv_is (nt + 1) T 10 29 t) : qv_Ok l X yX10_gates cX10_gates 2 none (d + 1) T M [.ref (X.2.2.2 + t)] qv_eV (f_X10_gates T t M) := by
  refine qv_mk (lv := [(0, .ref (X.2.2.2 + t))]) (by decide) (Nat.le_of_ble_eq_true rfl) rfl (fun G hG hRm g hr => ?_)
  have g : qv_ok G X cX10_gates RX10 2 := g
  unfold f_X10_gates
  refine qv_iconst (v := 0) (pc := 0) g dX10_gates_0 (by decide) ?_
  refine qv_istore_n (pc := 1) (lv1 := [(1, .int 0), (0, .ref (X.2.2.2 + t))]) g dX10_gates_1 rfl (by decide) rfl ?_
  refine qv_join (fun (k2 : qv_Mem → Option qv_Mem) => ∀ (M1 : qv_Mem), qv_V G X 2 (qv_QM G X T qv_eV (0, 0)) T (0, 0) 32 [(0, .ref (X.2.2.2 + t))] [] M1 (k2 M1)) (fun M1 => ?_) (fun k2 qk2 => ?_)
  · refine qv_aload_n (pc := 32) g dX10_gates_32 rfl rfl ?_
    have h1 : qv_is _ T 21 340 (qv_rf T t 0) := ht.to 0 (by decide) (by decide) rfl
    refine qv_getr (pc := 33) g fw_RX10_11 ht (by decide) (by decide) rfl dX10_gates_33 ?_
    refine qv_bipush (v := 84) (pc := 36) g dX10_gates_36 (by decide) ?_
    refine qv_lconst (v := 1) (pc := 38) g dX10_gates_38 (by decide) ?_
    refine qv_last (pc := 39) g h1 dX10_gates_39 (fun M3 => ?_)
    refine qv_aload_n (pc := 40) g dX10_gates_40 rfl rfl ?_
    refine qv_bipush (v := 7) (pc := 41) g dX10_gates_41 (by decide) ?_
    refine qv_iconst (v := 1) (pc := 43) g dX10_gates_43 (by decide) ?_
    refine qv_iconst (v := 0) (pc := 44) g dX10_gates_44 (by decide) ?_
    refine qv_lconst (v := 1) (pc := 45) g dX10_gates_45 (by decide) ?_
    refine qv_aV (qv_cv (pc := 46) g (c_X10_number (gl G) X d T _ _ _ _ _ M3 ht) (qv_R hRm (by omega) (by decide)) ⟨Nat.zero_le _, Nat.zero_le _⟩ mw_X10_number lk_RX10_76 im_X10_number se_X10_number (by decide) rfl ht pd_X10_number rfl (Nat.le_of_ble_eq_true rfl) dX10_gates_46) (fun M4 => ?_)
    refine qv_aload_n (pc := 49) g dX10_gates_49 rfl rfl ?_
    refine qv_bipush (v := 7) (pc := 50) g dX10_gates_50 (by decide) ?_
    refine qv_iconst (v := 2) (pc := 52) g dX10_gates_52 (by decide) ?_
    refine qv_iconst (v := 0) (pc := 53) g dX10_gates_53 (by decide) ?_
    refine qv_lconst (v := 1) (pc := 54) g dX10_gates_54 (by decide) ?_
    refine qv_aV (qv_cv (pc := 55) g (c_X10_number (gl G) X d T _ _ _ _ _ M4 ht) (qv_R hRm (by omega) (by decide)) ⟨Nat.zero_le _, Nat.zero_le _⟩ mw_X10_number lk_RX10_76 im_X10_number se_X10_number (by decide) rfl ht pd_X10_number rfl (Nat.le_of_ble_eq_true rfl) dX10_gates_55) (fun M5 => ?_)
    refine qv_iconst (v := 0) (pc := 58) g dX10_gates_58 (by decide) ?_
    refine qv_istore_n (pc := 59) (lv1 := [(1, .int 0), (0, .ref (X.2.2.2 + t))]) g dX10_gates_59 rfl (by decide) rfl ?_
    refine qv_join (fun (k7 : qv_Mem → Option qv_Mem) => ∀ (M6 : qv_Mem), qv_V G X 2 (qv_QM G X T qv_eV (0, 0)) T (0, 0) 96 [(0, .ref (X.2.2.2 + t))] [] M6 (k7 M6)) (fun M6 => ?_) (fun k7 qk7 => ?_)
    · refine qv_aload_n (pc := 96) g dX10_gates_96 rfl rfl ?_
      refine qv_iconst (v := 5) (pc := 97) g dX10_gates_97 (by decide) ?_
      refine qv_iconst (v := 3) (pc := 98) g dX10_gates_98 (by decide) ?_
      refine qv_iconst (v := 1) (pc := 99) g dX10_gates_99 (by decide) ?_
      refine qv_lconst (v := 1) (pc := 100) g dX10_gates_100 (by decide) ?_
      refine qv_aV (qv_cv (pc := 101) g (c_X10_number (gl G) X d T _ _ _ _ _ M6 ht) (qv_R hRm (by omega) (by decide)) ⟨Nat.zero_le _, Nat.zero_le _⟩ mw_X10_number lk_RX10_76 im_X10_number se_X10_number (by decide) rfl ht pd_X10_number rfl (Nat.le_of_ble_eq_true rfl) dX10_gates_101) (fun M8 => ?_)
      refine qv_aload_n (pc := 104) g dX10_gates_104 rfl rfl ?_
      refine qv_bipush (v := 6) (pc := 105) g dX10_gates_105 (by decide) ?_
      refine qv_iconst (v := 3) (pc := 107) g dX10_gates_107 (by decide) ?_
      refine qv_iconst (v := 2) (pc := 108) g dX10_gates_108 (by decide) ?_
      refine qv_lconst (v := 1) (pc := 109) g dX10_gates_109 (by decide) ?_
      refine qv_aV (qv_cv (pc := 110) g (c_X10_number (gl G) X d T _ _ _ _ _ M8 ht) (qv_R hRm (by omega) (by decide)) ⟨Nat.zero_le _, Nat.zero_le _⟩ mw_X10_number lk_RX10_76 im_X10_number se_X10_number (by decide) rfl ht pd_X10_number rfl (Nat.le_of_ble_eq_true rfl) dX10_gates_110) (fun M9 => ?_)
      refine qv_aload_n (pc := 113) g dX10_gates_113 rfl rfl ?_
      refine qv_bipush (v := 8) (pc := 114) g dX10_gates_114 (by decide) ?_
      refine qv_iconst (v := 3) (pc := 116) g dX10_gates_116 (by decide) ?_
      refine qv_iconst (v := 0) (pc := 117) g dX10_gates_117 (by decide) ?_
      refine qv_ldc2 (pc := 118) g kl_RX10_90 dX10_gates_118 ?_
      refine qv_aV (qv_cv (pc := 121) g (c_X10_number (gl G) X d T _ _ _ _ _ M9 ht) (qv_R hRm (by omega) (by decide)) ⟨Nat.zero_le _, Nat.zero_le _⟩ mw_X10_number lk_RX10_76 im_X10_number se_X10_number (by decide) rfl ht pd_X10_number rfl (Nat.le_of_ble_eq_true rfl) dX10_gates_121) (fun M10 => ?_)
      refine qv_aload_n (pc := 124) g dX10_gates_124 rfl rfl ?_
      refine qv_bipush (v := 9) (pc := 125) g dX10_gates_125 (by decide) ?_
      refine qv_iconst (v := 0) (pc := 127) g dX10_gates_127 (by decide) ?_
      refine qv_iconst (v := 1) (pc := 128) g dX10_gates_128 (by decide) ?_
      refine qv_lconst (v := 1) (pc := 129) g dX10_gates_129 (by decide) ?_
      refine qv_aV (qv_cv (pc := 130) g (c_X10_number (gl G) X d T _ _ _ _ _ M10 ht) (qv_R hRm (by omega) (by decide)) ⟨Nat.zero_le _, Nat.zero_le _⟩ mw_X10_number lk_RX10_76 im_X10_number se_X10_number (by decide) rfl ht pd_X10_number rfl (Nat.le_of_ble_eq_true rfl) dX10_gates_130) (fun M11 => ?_)
      refine qv_aload_n (pc := 133) g dX10_gates_133 rfl rfl ?_
      refine qv_bipush (v := 9) (pc := 134) g dX10_gates_134 (by decide) ?_
      refine qv_iconst (v := 3) (pc := 136) g dX10_gates_136 (by decide) ?_
      refine qv_iconst (v := 1) (pc := 137) g dX10_gates_137 (by decide) ?_
      refine qv_lconst (v := 1) (pc := 138) g dX10_gates_138 (by decide) ?_
      refine qv_aV (qv_cv (pc := 139) g (c_X10_number (gl G) X d T _ _ _ _ _ M11 ht) (qv_R hRm (by omega) (by decide)) ⟨Nat.zero_le _, Nat.zero_le _⟩ mw_X10_number lk_RX10_76 im_X10_number se_X10_number (by decide) rfl ht pd_X10_number rfl (Nat.le_of_ble_eq_true rfl) dX10_gates_139) (fun M12 => ?_)
      refine qv_aload_n (pc := 142) g dX10_gates_142 rfl rfl ?_
      refine qv_bipush (v := 10) (pc := 143) g dX10_gates_143 (by decide) ?_
      refine qv_iconst (v := 3) (pc := 145) g dX10_gates_145 (by decide) ?_
      refine qv_iconst (v := 3) (pc := 146) g dX10_gates_146 (by decide) ?_
      refine qv_ldc2 (pc := 147) g kl_RX10_90 dX10_gates_147 ?_
      refine qv_aV (qv_cv (pc := 150) g (c_X10_number (gl G) X d T _ _ _ _ _ M12 ht) (qv_R hRm (by omega) (by decide)) ⟨Nat.zero_le _, Nat.zero_le _⟩ mw_X10_number lk_RX10_76 im_X10_number se_X10_number (by decide) rfl ht pd_X10_number rfl (Nat.le_of_ble_eq_true rfl) dX10_gates_150) (fun M13 => ?_)
      refine qv_aload_n (pc := 153) g dX10_gates_153 rfl rfl ?_
      refine qv_bipush (v := 7) (pc := 154) g dX10_gates_154 (by decide) ?_
      refine qv_bipush (v := 11) (pc := 156) g dX10_gates_156 (by decide) ?_
      refine qv_aV (qv_cv (pc := 158) g (c_X10_copies (gl G) X d T _ _ _ M13 ht) (qv_R hRm (by omega) (by decide)) ⟨Nat.zero_le _, Nat.zero_le _⟩ mw_X10_copies lk_RX10_83 im_X10_copies se_X10_copies (by decide) rfl ht pd_X10_copies rfl (Nat.le_of_ble_eq_true rfl) dX10_gates_158) (fun M14 => ?_)
      refine qv_aload_n (pc := 161) g dX10_gates_161 rfl rfl ?_
      refine qv_bipush (v := 12) (pc := 162) g dX10_gates_162 (by decide) ?_
      refine qv_iconst (v := 1) (pc := 164) g dX10_gates_164 (by decide) ?_
      refine qv_iconst (v := 2) (pc := 165) g dX10_gates_165 (by decide) ?_
      refine qv_ldc2 (pc := 166) g kl_RX10_90 dX10_gates_166 ?_
      refine qv_aV (qv_cv (pc := 169) g (c_X10_number (gl G) X d T _ _ _ _ _ M14 ht) (qv_R hRm (by omega) (by decide)) ⟨Nat.zero_le _, Nat.zero_le _⟩ mw_X10_number lk_RX10_76 im_X10_number se_X10_number (by decide) rfl ht pd_X10_number rfl (Nat.le_of_ble_eq_true rfl) dX10_gates_169) (fun M15 => ?_)
      refine qv_aload_n (pc := 172) g dX10_gates_172 rfl rfl ?_
      refine qv_bipush (v := 12) (pc := 173) g dX10_gates_173 (by decide) ?_
      refine qv_iconst (v := 2) (pc := 175) g dX10_gates_175 (by decide) ?_
      refine qv_iconst (v := 2) (pc := 176) g dX10_gates_176 (by decide) ?_
      refine qv_lconst (v := 1) (pc := 177) g dX10_gates_177 (by decide) ?_
      refine qv_aV (qv_cv (pc := 178) g (c_X10_number (gl G) X d T _ _ _ _ _ M15 ht) (qv_R hRm (by omega) (by decide)) ⟨Nat.zero_le _, Nat.zero_le _⟩ mw_X10_number lk_RX10_76 im_X10_number se_X10_number (by decide) rfl ht pd_X10_number rfl (Nat.le_of_ble_eq_true rfl) dX10_gates_178) (fun M16 => ?_)
      refine qv_aload_n (pc := 181) g dX10_gates_181 rfl rfl ?_
      refine qv_bipush (v := 8) (pc := 182) g dX10_gates_182 (by decide) ?_
      refine qv_bipush (v := 13) (pc := 184) g dX10_gates_184 (by decide) ?_
      refine qv_aV (qv_cv (pc := 186) g (c_X10_copies (gl G) X d T _ _ _ M16 ht) (qv_R hRm (by omega) (by decide)) ⟨Nat.zero_le _, Nat.zero_le _⟩ mw_X10_copies lk_RX10_83 im_X10_copies se_X10_copies (by decide) rfl ht pd_X10_copies rfl (Nat.le_of_ble_eq_true rfl) dX10_gates_186) (fun M17 => ?_)
      exact qv_vret (pc := 189) g hr rfl dX10_gates_189
    refine qv_lv [1, 0] rfl ?_
    exact qv_L2 (Vh := fun (v18 : Int32) (M19 : qv_Mem) o => qv_V G X 2 (qv_QM G X T qv_eV (0, 0)) T (0, 0) 60 [(0, .ref (X.2.2.2 + t)), (1, .int v18)] [] M19 o) (fun _ _ => qv_none) (fun r20 qr20 v18 M19 => by
      unfold b_X10_gates_60
      refine qv_iload_n (pc := 60) g dX10_gates_60 rfl rfl ?_
      refine qv_bipush (v := 7) (pc := 61) g dX10_gates_61 (by decide) ?_
      refine qv_icmp_ge (pc := 63) (tgt := 96) g dX10_gates_63 (by decide) ?_ ?_
      · refine qv_lv [0] rfl ?_
        exact qk7 _
      · refine qv_iload_n (pc := 66) g dX10_gates_66 rfl rfl ?_
        refine qv_join (fun (k22 : qv_Mem → Option qv_Mem) => ∀ (M21 : qv_Mem), qv_V G X 2 (qv_QM G X T qv_eV (0, 0)) T (0, 0) 90 [(0, .ref (X.2.2.2 + t)), (1, .int v18)] [] M21 (k22 M21)) (fun M21 => ?_) (fun k22 qk22 => ?_)
        · refine qv_iinc (pc := 90) (v := (v18 + 1)) (lv1 := [(1, .int (v18 + 1)), (0, .ref (X.2.2.2 + t))]) g dX10_gates_90 rfl rfl (by decide) rfl ?_
          refine qv_goto (pc := 93) (tgt := 60) g dX10_gates_93 (by decide) ?_
          refine qv_lv [1, 0] rfl ?_
          exact qr20 _ _
        refine qv_if_eq (pc := 67) (tgt := 90) g dX10_gates_67 (by decide) ?_ ?_
        · exact qk22 _
        · refine qv_iload_n (pc := 70) g dX10_gates_70 rfl rfl ?_
          refine qv_iconst (v := 3) (pc := 71) g dX10_gates_71 (by decide) ?_
          refine qv_icmp_eq (pc := 72) (tgt := 90) g dX10_gates_72 (by decide) ?_ ?_
          · exact qk22 _
          · refine qv_iload_n (pc := 75) g dX10_gates_75 rfl rfl ?_
            refine qv_iconst (v := 5) (pc := 76) g dX10_gates_76 (by decide) ?_
            refine qv_icmp_eq (pc := 77) (tgt := 90) g dX10_gates_77 (by decide) ?_ ?_
            · exact qk22 _
            · refine qv_aload_n (pc := 80) g dX10_gates_80 rfl rfl ?_
              refine qv_iconst (v := 4) (pc := 81) g dX10_gates_81 (by decide) ?_
              refine qv_iload_n (pc := 82) g dX10_gates_82 rfl rfl ?_
              refine qv_iadd (pc := 83) g dX10_gates_83 ?_
              refine qv_iconst (v := 0) (pc := 84) g dX10_gates_84 (by decide) ?_
              refine qv_iconst (v := 0) (pc := 85) g dX10_gates_85 (by decide) ?_
              refine qv_lconst (v := 1) (pc := 86) g dX10_gates_86 (by decide) ?_
              refine qv_aV (qv_cv (pc := 87) g (c_X10_number (gl G) X d T _ _ _ _ _ M19 ht) (qv_R hRm (by omega) (by decide)) ⟨Nat.zero_le _, Nat.zero_le _⟩ mw_X10_number lk_RX10_76 im_X10_number se_X10_number (by decide) rfl ht pd_X10_number rfl (Nat.le_of_ble_eq_true rfl) dX10_gates_87) (fun M23 => ?_)
              exact qk22 _) _ _ _
  refine qv_lv [1, 0] rfl ?_
  exact qv_L2 (Vh := fun (v24 : Int32) (M25 : qv_Mem) o => qv_V G X 2 (qv_QM G X T qv_eV (0, 0)) T (0, 0) 2 [(0, .ref (X.2.2.2 + t)), (1, .int v24)] [] M25 o) (fun _ _ => qv_none) (fun r26 qr26 v24 M25 => by
    unfold b_X10_gates_2
    refine qv_iload_n (pc := 2) g dX10_gates_2 rfl rfl ?_
    refine qv_iconst (v := 4) (pc := 3) g dX10_gates_3 (by decide) ?_
    refine qv_icmp_ge (pc := 4) (tgt := 32) g dX10_gates_4 (by decide) ?_ ?_
    · refine qv_lv [0] rfl ?_
      exact qk2 _
    · refine qv_aload_n (pc := 7) g dX10_gates_7 rfl rfl ?_
      refine qv_iconst (v := 4) (pc := 8) g dX10_gates_8 (by decide) ?_
      refine qv_iload_n (pc := 9) g dX10_gates_9 rfl rfl ?_
      refine qv_iconst (v := 0) (pc := 10) g dX10_gates_10 (by decide) ?_
      refine qv_iload_n (pc := 11) g dX10_gates_11 rfl rfl ?_
      refine qv_iconst (v := 3) (pc := 12) g dX10_gates_12 (by decide) ?_
      refine qv_join (fun (k28 : Int64 → Option qv_Mem) => ∀ (v27 : Int64), qv_V G X 2 (qv_QM G X T qv_eV (0, 0)) T (0, 0) 23 [(0, .ref (X.2.2.2 + t)), (1, .int v24)] [.long v27, .int 0, .int v24, .int 4, .ref (X.2.2.2 + t)] M25 (k28 v27)) (fun v27 => ?_) (fun k28 qk28 => ?_)
      · refine qv_aV (qv_cv (pc := 23) g (c_X10_number (gl G) X d T _ _ _ _ _ M25 ht) (qv_R hRm (by omega) (by decide)) ⟨Nat.zero_le _, Nat.zero_le _⟩ mw_X10_number lk_RX10_76 im_X10_number se_X10_number (by decide) rfl ht pd_X10_number rfl (Nat.le_of_ble_eq_true rfl) dX10_gates_23) (fun M29 => ?_)
        refine qv_iinc (pc := 26) (v := (v24 + 1)) (lv1 := [(1, .int (v24 + 1)), (0, .ref (X.2.2.2 + t))]) g dX10_gates_26 rfl rfl (by decide) rfl ?_
        refine qv_goto (pc := 29) (tgt := 2) g dX10_gates_29 (by decide) ?_
        refine qv_lv [1, 0] rfl ?_
        exact qr26 _ _
      refine qv_icmp_ne (pc := 13) (tgt := 22) g dX10_gates_13 (by decide) ?_ ?_
      · refine qv_lconst (v := 1) (pc := 22) g dX10_gates_22 (by decide) ?_
        exact qk28 _
      · refine qv_ldc2 (pc := 16) g kl_RX10_90 dX10_gates_16 ?_
        refine qv_goto (pc := 19) (tgt := 23) g dX10_gates_19 (by decide) ?_
        exact qk28 _) _ _ _

set_option maxHeartbeats 4000000 in
set_option maxRecDepth 100000 in
theorem c_X10_saves (l : Launch) (X : qv_X) (d : Nat) (T : List qv_Ent) (t : Nat) (p1 : Int32) (M : qv_Mem) {nt : Nat} (ht : qv_is (nt + 1) T 10 29 t) : qv_Ok l X yX10_saves cX10_saves 3 none (d) T M [.ref (X.2.2.2 + t), .int p1] qv_eV (f_X10_saves T t p1 M) := by
  refine qv_mk (lv := [(0, .ref (X.2.2.2 + t)), (1, .int p1)]) (by decide) (Nat.le_of_ble_eq_true rfl) rfl (fun G hG hRm g hr => ?_)
  have g : qv_ok G X cX10_saves RX10 3 := g
  unfold f_X10_saves
  refine qv_iconst (v := 0) (pc := 0) g dX10_saves_0 (by decide) ?_
  refine qv_istore_n (pc := 1) (lv1 := [(2, .int 0), (0, .ref (X.2.2.2 + t)), (1, .int p1)]) g dX10_saves_1 rfl (by decide) rfl ?_
  refine qv_join (fun (k2 : qv_Mem → Option qv_Mem) => ∀ (M1 : qv_Mem), qv_V G X 3 (qv_QM G X T qv_eV (0, 0)) T (0, 0) 39 [(0, .ref (X.2.2.2 + t))] [] M1 (k2 M1)) (fun M1 => ?_) (fun k2 qk2 => ?_)
  · refine qv_aload_n (pc := 39) g dX10_saves_39 rfl rfl ?_
    refine qv_dup (pc := 40) g dX10_saves_40 rfl ?_
    refine qv_gets (pc := 41) g fw_RX10_150 ht (by decide) (by decide) rfl dX10_saves_41 (fun v3 => ?_)
    refine qv_iconst (v := 1) (pc := 44) g dX10_saves_44 (by decide) ?_
    refine qv_iadd (pc := 45) g dX10_saves_45 ?_
    refine qv_puti (pc := 46) g pw_RX10_150 ht (by decide) (by decide) rfl dX10_saves_46 (fun M4 => ?_)
    exact qv_vret (pc := 49) g hr rfl dX10_saves_49
  refine qv_lv [1, 2, 0] rfl ?_
  exact qv_L2 (Vh := fun (v5 : Int32) (M6 : qv_Mem) o => qv_V G X 3 (qv_QM G X T qv_eV (0, 0)) T (0, 0) 2 [(0, .ref (X.2.2.2 + t)), (1, .int p1), (2, .int v5)] [] M6 o) (fun _ _ => qv_none) (fun r7 qr7 v5 M6 => by
    unfold b_X10_saves_2
    refine qv_iload_n (pc := 2) g dX10_saves_2 rfl rfl ?_
    refine qv_bipush (v := 17) (pc := 3) g dX10_saves_3 (by decide) ?_
    refine qv_icmp_ge (pc := 5) (tgt := 39) g dX10_saves_5 (by decide) ?_ ?_
    · refine qv_lv [0] rfl ?_
      exact qk2 _
    · refine qv_aload_n (pc := 8) g dX10_saves_8 rfl rfl ?_
      have h1 : qv_is _ T 21 3264 (qv_rf T t 1) := ht.to 1 (by decide) (by decide) rfl
      refine qv_getr (pc := 9) g fw_RX10_15 ht (by decide) (by decide) rfl dX10_saves_9 ?_
      refine qv_bipush (v := 17) (pc := 12) g dX10_saves_12 (by decide) ?_
      refine qv_aload_n (pc := 14) g dX10_saves_14 rfl rfl ?_
      refine qv_gets (pc := 15) g fw_RX10_150 ht (by decide) (by decide) rfl dX10_saves_15 (fun v8 => ?_)
      refine qv_imul (pc := 18) g dX10_saves_18 ?_
      refine qv_iload_n (pc := 19) g dX10_saves_19 rfl rfl ?_
      refine qv_iadd (pc := 20) g dX10_saves_20 ?_
      refine qv_aload_n (pc := 21) g dX10_saves_21 rfl rfl ?_
      have h2 : qv_is _ T 21 340 (qv_rf T t 0) := ht.to 0 (by decide) (by decide) rfl
      refine qv_getr (pc := 22) g fw_RX10_11 ht (by decide) (by decide) rfl dX10_saves_22 ?_
      refine qv_bipush (v := 17) (pc := 25) g dX10_saves_25 (by decide) ?_
      refine qv_iload_n (pc := 27) g dX10_saves_27 rfl rfl ?_
      refine qv_imul (pc := 28) g dX10_saves_28 ?_
      refine qv_iload_n (pc := 29) g dX10_saves_29 rfl rfl ?_
      refine qv_iadd (pc := 30) g dX10_saves_30 ?_
      refine qv_lald (pc := 31) g h2 dX10_saves_31 (fun v9 => ?_)
      refine qv_last (pc := 32) g h1 dX10_saves_32 (fun M10 => ?_)
      refine qv_iinc (pc := 33) (v := (v5 + 1)) (lv1 := [(2, .int (v5 + 1)), (0, .ref (X.2.2.2 + t)), (1, .int p1)]) g dX10_saves_33 rfl rfl (by decide) rfl ?_
      refine qv_goto (pc := 36) (tgt := 2) g dX10_saves_36 (by decide) ?_
      refine qv_lv [1, 2, 0] rfl ?_
      exact qr7 _ _) _ _ _

set_option maxHeartbeats 4000000 in
set_option maxRecDepth 100000 in
theorem c_X10_loads (l : Launch) (X : qv_X) (d : Nat) (T : List qv_Ent) (t : Nat) (p1 : Int32) (p2 : Int32) (M : qv_Mem) {nt : Nat} (ht : qv_is (nt + 1) T 10 29 t) : qv_Ok l X yX10_loads cX10_loads 4 none (d) T M [.ref (X.2.2.2 + t), .int p1, .int p2] qv_eV (f_X10_loads T t p1 p2 M) := by
  refine qv_mk (lv := [(0, .ref (X.2.2.2 + t)), (1, .int p1), (2, .int p2)]) (by decide) (Nat.le_of_ble_eq_true rfl) rfl (fun G hG hRm g hr => ?_)
  have g : qv_ok G X cX10_loads RX10 4 := g
  unfold f_X10_loads
  refine qv_iconst (v := 0) (pc := 0) g dX10_loads_0 (by decide) ?_
  refine qv_istore_n (pc := 1) (lv1 := [(3, .int 0), (0, .ref (X.2.2.2 + t)), (1, .int p1), (2, .int p2)]) g dX10_loads_1 rfl (by decide) rfl ?_
  refine qv_join (fun (k2 : qv_Mem → Option qv_Mem) => ∀ (M1 : qv_Mem), qv_V G X 4 (qv_QM G X T qv_eV (0, 0)) T (0, 0) 36 [] [] M1 (k2 M1)) (fun M1 => ?_) (fun k2 qk2 => ?_)
  · exact qv_vret (pc := 36) g hr rfl dX10_loads_36
  refine qv_lv [1, 2, 3, 0] rfl ?_
  exact qv_L2 (Vh := fun (v3 : Int32) (M4 : qv_Mem) o => qv_V G X 4 (qv_QM G X T qv_eV (0, 0)) T (0, 0) 2 [(0, .ref (X.2.2.2 + t)), (1, .int p1), (2, .int p2), (3, .int v3)] [] M4 o) (fun _ _ => qv_none) (fun r5 qr5 v3 M4 => by
    unfold b_X10_loads_2
    refine qv_iload_n (pc := 2) g dX10_loads_2 rfl rfl ?_
    refine qv_bipush (v := 17) (pc := 3) g dX10_loads_3 (by decide) ?_
    refine qv_icmp_ge (pc := 5) (tgt := 36) g dX10_loads_5 (by decide) ?_ ?_
    · refine qv_lv [] rfl ?_
      exact qk2 _
    · refine qv_aload_n (pc := 8) g dX10_loads_8 rfl rfl ?_
      have h1 : qv_is _ T 21 340 (qv_rf T t 0) := ht.to 0 (by decide) (by decide) rfl
      refine qv_getr (pc := 9) g fw_RX10_11 ht (by decide) (by decide) rfl dX10_loads_9 ?_
      refine qv_bipush (v := 17) (pc := 12) g dX10_loads_12 (by decide) ?_
      refine qv_iload_n (pc := 14) g dX10_loads_14 rfl rfl ?_
      refine qv_imul (pc := 15) g dX10_loads_15 ?_
      refine qv_iload_n (pc := 16) g dX10_loads_16 rfl rfl ?_
      refine qv_iadd (pc := 17) g dX10_loads_17 ?_
      refine qv_aload_n (pc := 18) g dX10_loads_18 rfl rfl ?_
      have h2 : qv_is _ T 21 3264 (qv_rf T t 1) := ht.to 1 (by decide) (by decide) rfl
      refine qv_getr (pc := 19) g fw_RX10_15 ht (by decide) (by decide) rfl dX10_loads_19 ?_
      refine qv_bipush (v := 17) (pc := 22) g dX10_loads_22 (by decide) ?_
      refine qv_iload_n (pc := 24) g dX10_loads_24 rfl rfl ?_
      refine qv_imul (pc := 25) g dX10_loads_25 ?_
      refine qv_iload_n (pc := 26) g dX10_loads_26 rfl rfl ?_
      refine qv_iadd (pc := 27) g dX10_loads_27 ?_
      refine qv_lald (pc := 28) g h2 dX10_loads_28 (fun v6 => ?_)
      refine qv_last (pc := 29) g h1 dX10_loads_29 (fun M7 => ?_)
      refine qv_iinc (pc := 30) (v := (v3 + 1)) (lv1 := [(3, .int (v3 + 1)), (0, .ref (X.2.2.2 + t)), (1, .int p1), (2, .int p2)]) g dX10_loads_30 rfl rfl (by decide) rfl ?_
      refine qv_goto (pc := 33) (tgt := 2) g dX10_loads_33 (by decide) ?_
      refine qv_lv [1, 2, 3, 0] rfl ?_
      exact qr5 _ _) _ _ _

set_option maxHeartbeats 4000000 in
set_option maxRecDepth 100000 in
theorem c_X10_at (l : Launch) (X : qv_X) (d : Nat) (T : List qv_Ent) (t : Nat) (p1 : Int32) (p2 : Int32) (p3 : Int32) (M : qv_Mem) {nt : Nat} (ht : qv_is (nt + 1) T 10 29 t) : qv_Ok l X yX10_at cX10_at 4 (some .long) (d) T M [.ref (X.2.2.2 + t), .int p1, .int p2, .int p3] (qv_eL M) (f_X10_at T t p1 p2 p3 M) := by
  refine qv_mk (lv := [(0, .ref (X.2.2.2 + t)), (1, .int p1), (2, .int p2), (3, .int p3)]) (by decide) (Nat.le_of_ble_eq_true rfl) rfl (fun G hG hRm g hr => ?_)
  have g : qv_ok G X cX10_at RX10 4 := g
  unfold f_X10_at
  refine qv_aload_n (pc := 0) g dX10_at_0 rfl rfl ?_
  have h1 : qv_is _ T 21 340 (qv_rf T t 0) := ht.to 0 (by decide) (by decide) rfl
  refine qv_getr (pc := 1) g fw_RX10_11 ht (by decide) (by decide) rfl dX10_at_1 ?_
  refine qv_bipush (v := 17) (pc := 4) g dX10_at_4 (by decide) ?_
  refine qv_iload_n (pc := 6) g dX10_at_6 rfl rfl ?_
  refine qv_imul (pc := 7) g dX10_at_7 ?_
  refine qv_iconst (v := 4) (pc := 8) g dX10_at_8 (by decide) ?_
  refine qv_iload_n (pc := 9) g dX10_at_9 rfl rfl ?_
  refine qv_imul (pc := 10) g dX10_at_10 ?_
  refine qv_iadd (pc := 11) g dX10_at_11 ?_
  refine qv_iload_n (pc := 12) g dX10_at_12 rfl rfl ?_
  refine qv_iadd (pc := 13) g dX10_at_13 ?_
  refine qv_lald (pc := 14) g h1 dX10_at_14 (fun v1 => ?_)
  exact qv_lret (pc := 15) g hr rfl dX10_at_15

set_option maxHeartbeats 4000000 in
set_option maxRecDepth 100000 in
theorem c_X10_adds (l : Launch) (X : qv_X) (d : Nat) (T : List qv_Ent) (t : Nat) (p1 : Int32) (p2 : Int32) (p3 : Int32) (p4 : Int32) (p5 : Int32) (p6 : Int32) (M : qv_Mem) {nt : Nat} (ht : qv_is (nt + 1) T 10 29 t) : qv_Ok l X yX10_adds cX10_adds 12 none (d + 1) T M [.ref (X.2.2.2 + t), .int p1, .int p2, .int p3, .int p4, .int p5, .int p6] qv_eV (f_X10_adds T t p1 p2 p3 p4 p5 p6 M) := by
  refine qv_mk (lv := [(0, .ref (X.2.2.2 + t)), (1, .int p1), (2, .int p2), (3, .int p3), (4, .int p4), (5, .int p5), (6, .int p6)]) (by decide) (Nat.le_of_ble_eq_true rfl) rfl (fun G hG hRm g hr => ?_)
  have g : qv_ok G X cX10_adds RX10 12 := g
  unfold f_X10_adds
  refine qv_iconst (v := 0) (pc := 0) g dX10_adds_0 (by decide) ?_
  refine qv_istore (pc := 1) (lv1 := [(7, .int 0), (0, .ref (X.2.2.2 + t)), (1, .int p1), (2, .int p2), (3, .int p3), (4, .int p4), (5, .int p5), (6, .int p6)]) g dX10_adds_1 (by decide) rfl ?_
  refine qv_join (fun (k2 : qv_Mem → Option qv_Mem) => ∀ (M1 : qv_Mem), qv_V G X 12 (qv_QM G X T qv_eV (0, 0)) T (0, 0) 97 [] [] M1 (k2 M1)) (fun M1 => ?_) (fun k2 qk2 => ?_)
  · exact qv_vret (pc := 97) g hr rfl dX10_adds_97
  refine qv_lv [1, 2, 3, 4, 5, 6, 7, 0] rfl ?_
  exact qv_L2 (Vh := fun (v3 : Int32) (M4 : qv_Mem) o => qv_V G X 12 (qv_QM G X T qv_eV (0, 0)) T (0, 0) 3 [(0, .ref (X.2.2.2 + t)), (1, .int p1), (2, .int p2), (3, .int p3), (4, .int p4), (5, .int p5), (6, .int p6), (7, .int v3)] [] M4 o) (fun _ _ => qv_none) (fun r5 qr5 v3 M4 => by
    unfold b_X10_adds_3
    refine qv_iload (pc := 3) g dX10_adds_3 rfl ?_
    refine qv_iconst (v := 4) (pc := 5) g dX10_adds_5 (by decide) ?_
    refine qv_icmp_ge (pc := 6) (tgt := 97) g dX10_adds_6 (by decide) ?_ ?_
    · refine qv_lv [] rfl ?_
      exact qk2 _
    · refine qv_iconst (v := 0) (pc := 9) g dX10_adds_9 (by decide) ?_
      refine qv_istore (pc := 10) (lv1 := [(8, .int 0), (0, .ref (X.2.2.2 + t)), (1, .int p1), (2, .int p2), (3, .int p3), (4, .int p4), (5, .int p5), (6, .int p6), (7, .int v3)]) g dX10_adds_10 (by decide) rfl ?_
      refine qv_join (fun (k7 : qv_Mem → Option qv_Mem) => ∀ (M6 : qv_Mem), qv_V G X 12 (qv_QM G X T qv_eV (0, 0)) T (0, 0) 91 [(0, .ref (X.2.2.2 + t)), (1, .int p1), (2, .int p2), (3, .int p3), (4, .int p4), (5, .int p5), (6, .int p6), (7, .int v3)] [] M6 (k7 M6)) (fun M6 => ?_) (fun k7 qk7 => ?_)
      · refine qv_iinc (pc := 91) (v := (v3 + 1)) (lv1 := [(7, .int (v3 + 1)), (0, .ref (X.2.2.2 + t)), (1, .int p1), (2, .int p2), (3, .int p3), (4, .int p4), (5, .int p5), (6, .int p6)]) g dX10_adds_91 rfl rfl (by decide) rfl ?_
        refine qv_goto (pc := 94) (tgt := 3) g dX10_adds_94 (by decide) ?_
        refine qv_lv [1, 2, 3, 4, 5, 6, 7, 0] rfl ?_
        exact qr5 _ _
      refine qv_lv [1, 2, 3, 4, 5, 6, 7, 8, 0] rfl ?_
      exact qv_L2 (Vh := fun (v8 : Int32) (M9 : qv_Mem) o => qv_V G X 12 (qv_QM G X T qv_eV (0, 0)) T (0, 0) 12 [(0, .ref (X.2.2.2 + t)), (1, .int p1), (2, .int p2), (3, .int p3), (4, .int p4), (5, .int p5), (6, .int p6), (7, .int v3), (8, .int v8)] [] M9 o) (fun _ _ => qv_none) (fun r10 qr10 v8 M9 => by
        unfold b_X10_adds_12
        refine qv_iload (pc := 12) g dX10_adds_12 rfl ?_
        refine qv_iconst (v := 4) (pc := 14) g dX10_adds_14 (by decide) ?_
        refine qv_icmp_ge (pc := 15) (tgt := 91) g dX10_adds_15 (by decide) ?_ ?_
        · refine qv_lv [0, 1, 2, 3, 4, 5, 6, 7] rfl ?_
          exact qk7 _
        · refine qv_aload_n (pc := 18) g dX10_adds_18 rfl rfl ?_
          refine qv_iload_n (pc := 19) g dX10_adds_19 rfl rfl ?_
          refine qv_iload (pc := 20) g dX10_adds_20 rfl ?_
          refine qv_iload (pc := 22) g dX10_adds_22 rfl ?_
          refine qv_aL rfl (qv_cv (pc := 24) g (c_X10_at (gl G) X d T _ _ _ _ M9 ht) (qv_R hRm (by omega) (by decide)) ⟨Nat.zero_le _, Nat.zero_le _⟩ mw_X10_at lk_RX10_92 im_X10_at se_X10_at (by decide) rfl ht pd_X10_at rfl (Nat.le_of_ble_eq_true rfl) dX10_adds_24) (fun v11 => ?_)
          refine qv_aload_n (pc := 27) g dX10_adds_27 rfl rfl ?_
          refine qv_iload (pc := 28) g dX10_adds_28 rfl ?_
          refine qv_iload (pc := 30) g dX10_adds_30 rfl ?_
          refine qv_iload (pc := 32) g dX10_adds_32 rfl ?_
          refine qv_aL rfl (qv_cv (pc := 34) g (c_X10_at (gl G) X d T _ _ _ _ M9 ht) (qv_R hRm (by omega) (by decide)) ⟨Nat.zero_le _, Nat.zero_le _⟩ mw_X10_at lk_RX10_92 im_X10_at se_X10_at (by decide) rfl ht pd_X10_at rfl (Nat.le_of_ble_eq_true rfl) dX10_adds_34) (fun v12 => ?_)
          refine qv_lmul (pc := 37) g dX10_adds_37 ?_
          refine qv_lstore (pc := 38) (lv1 := [(9, .long (v11 * v12)), (0, .ref (X.2.2.2 + t)), (1, .int p1), (2, .int p2), (3, .int p3), (4, .int p4), (5, .int p5), (6, .int p6), (7, .int v3), (8, .int v8)]) g dX10_adds_38 (by decide) rfl ?_
          refine qv_iload (pc := 40) g dX10_adds_40 rfl ?_
          refine qv_iload (pc := 42) g dX10_adds_42 rfl ?_
          refine qv_iadd (pc := 44) g dX10_adds_44 ?_
          refine qv_iconst (v := 4) (pc := 45) g dX10_adds_45 (by decide) ?_
          refine qv_irem (pc := 46) g dX10_adds_46 (by decide) ?_
          refine qv_istore (pc := 47) (lv1 := [(11, .int ((v3 + v8) - (v3 + v8) / 4 * 4)), (9, .long (v11 * v12)), (0, .ref (X.2.2.2 + t)), (1, .int p1), (2, .int p2), (3, .int p3), (4, .int p4), (5, .int p5), (6, .int p6), (7, .int v3), (8, .int v8)]) g dX10_adds_47 (by decide) rfl ?_
          refine qv_aload_n (pc := 49) g dX10_adds_49 rfl rfl ?_
          have h1 : qv_is _ T 21 340 (qv_rf T t 0) := ht.to 0 (by decide) (by decide) rfl
          refine qv_getr (pc := 50) g fw_RX10_11 ht (by decide) (by decide) rfl dX10_adds_50 ?_
          refine qv_bipush (v := 17) (pc := 53) g dX10_adds_53 (by decide) ?_
          refine qv_iload_n (pc := 55) g dX10_adds_55 rfl rfl ?_
          refine qv_imul (pc := 56) g dX10_adds_56 ?_
          refine qv_iconst (v := 4) (pc := 57) g dX10_adds_57 (by decide) ?_
          refine qv_iload_n (pc := 58) g dX10_adds_58 rfl rfl ?_
          refine qv_imul (pc := 59) g dX10_adds_59 ?_
          refine qv_iadd (pc := 60) g dX10_adds_60 ?_
          refine qv_iload (pc := 61) g dX10_adds_61 rfl ?_
          refine qv_iadd (pc := 63) g dX10_adds_63 ?_
          refine qv_dup2 (pc := 64) g dX10_adds_64 rfl rfl ?_
          refine qv_lald (pc := 65) g h1 dX10_adds_65 (fun v13 => ?_)
          refine qv_iload (pc := 66) g dX10_adds_66 rfl ?_
          refine qv_iload (pc := 68) g dX10_adds_68 rfl ?_
          refine qv_iadd (pc := 70) g dX10_adds_70 ?_
          refine qv_iconst (v := 4) (pc := 71) g dX10_adds_71 (by decide) ?_
          refine qv_join (fun (k15 : Int64 → Option qv_Mem) => ∀ (v14 : Int64), qv_V G X 12 (qv_QM G X T qv_eV (0, 0)) T (0, 0) 83 [(0, .ref (X.2.2.2 + t)), (1, .int p1), (2, .int p2), (3, .int p3), (4, .int p4), (5, .int p5), (6, .int p6), (7, .int v3), (8, .int v8)] [.long v14, .long v13, .int (((17 * p1) + (4 * p2)) + ((v3 + v8) - (v3 + v8) / 4 * 4)), .ref (X.2.2.2 + (qv_rf T t 0))] M9 (k15 v14)) (fun v14 => ?_) (fun k15 qk15 => ?_)
          · refine qv_ladd (pc := 83) g dX10_adds_83 ?_
            refine qv_last (pc := 84) g h1 dX10_adds_84 (fun M16 => ?_)
            refine qv_iinc (pc := 85) (v := (v8 + 1)) (lv1 := [(8, .int (v8 + 1)), (0, .ref (X.2.2.2 + t)), (1, .int p1), (2, .int p2), (3, .int p3), (4, .int p4), (5, .int p5), (6, .int p6), (7, .int v3)]) g dX10_adds_85 rfl rfl (by decide) rfl ?_
            refine qv_goto (pc := 88) (tgt := 12) g dX10_adds_88 (by decide) ?_
            refine qv_lv [1, 2, 3, 4, 5, 6, 7, 8, 0] rfl ?_
            exact qr10 _ _
          refine qv_icmp_ge (pc := 72) (tgt := 80) g dX10_adds_72 (by decide) ?_ ?_
          · refine qv_lload (pc := 80) g dX10_adds_80 rfl ?_
            refine qv_lneg (pc := 82) g dX10_adds_82 ?_
            refine qv_lv [2, 3, 4, 5, 6, 7, 8, 9, 10] rfl ?_
            exact qk15 _
          · refine qv_lload (pc := 75) g dX10_adds_75 rfl ?_
            refine qv_goto (pc := 77) (tgt := 83) g dX10_adds_77 (by decide) ?_
            refine qv_lv [2, 3, 4, 5, 6, 7, 8, 9, 10] rfl ?_
            exact qk15 _) _ _ _) _ _ _

set_option maxHeartbeats 4000000 in
set_option maxRecDepth 100000 in
theorem c_X10_eOf (l : Launch) (X : qv_X) (d : Nat) (T : List qv_Ent) (t : Nat) (p1 : Int32) (M : qv_Mem) {nt : Nat} (ht : qv_is (nt + 1) T 10 29 t) : qv_Ok l X yX10_eOf cX10_eOf 2 (some .int) (d) T M [.ref (X.2.2.2 + t), .int p1] (qv_eI M) (f_X10_eOf T t p1 M) := by
  refine qv_mk (lv := [(0, .ref (X.2.2.2 + t)), (1, .int p1)]) (by decide) (Nat.le_of_ble_eq_true rfl) rfl (fun G hG hRm g hr => ?_)
  have g : qv_ok G X cX10_eOf RX10 2 := g
  unfold f_X10_eOf
  refine qv_aload_n (pc := 0) g dX10_eOf_0 rfl rfl ?_
  have h1 : qv_is _ T 21 340 (qv_rf T t 0) := ht.to 0 (by decide) (by decide) rfl
  refine qv_getr (pc := 1) g fw_RX10_11 ht (by decide) (by decide) rfl dX10_eOf_1 ?_
  refine qv_bipush (v := 17) (pc := 4) g dX10_eOf_4 (by decide) ?_
  refine qv_iload_n (pc := 6) g dX10_eOf_6 rfl rfl ?_
  refine qv_imul (pc := 7) g dX10_eOf_7 ?_
  refine qv_bipush (v := 16) (pc := 8) g dX10_eOf_8 (by decide) ?_
  refine qv_iadd (pc := 10) g dX10_eOf_10 ?_
  refine qv_lald (pc := 11) g h1 dX10_eOf_11 (fun v1 => ?_)
  refine qv_l2i (pc := 12) g dX10_eOf_12 ?_
  exact qv_iret (pc := 13) g hr rfl dX10_eOf_13

set_option maxHeartbeats 4000000 in
set_option maxRecDepth 100000 in
theorem c_X10_plainly (l : Launch) (X : qv_X) (d : Nat) (T : List qv_Ent) (t : Nat) (p1 : Int32) (p2 : Int32) (p3 : Int32) (M : qv_Mem) {nt : Nat} (ht : qv_is (nt + 1) T 10 29 t) : qv_Ok l X yX10_plainly cX10_plainly 6 none (d + 2) T M [.ref (X.2.2.2 + t), .int p1, .int p2, .int p3] qv_eV (f_X10_plainly T t p1 p2 p3 M) := by
  refine qv_mk (lv := [(0, .ref (X.2.2.2 + t)), (1, .int p1), (2, .int p2), (3, .int p3)]) (by decide) (Nat.le_of_ble_eq_true rfl) rfl (fun G hG hRm g hr => ?_)
  have g : qv_ok G X cX10_plainly RX10 6 := g
  unfold f_X10_plainly
  refine qv_iconst (v := 0) (pc := 0) g dX10_plainly_0 (by decide) ?_
  refine qv_istore (pc := 1) (lv1 := [(4, .int 0), (0, .ref (X.2.2.2 + t)), (1, .int p1), (2, .int p2), (3, .int p3)]) g dX10_plainly_1 (by decide) rfl ?_
  refine qv_join (fun (k2 : qv_Mem → Option qv_Mem) => ∀ (M1 : qv_Mem), qv_V G X 6 (qv_QM G X T qv_eV (0, 0)) T (0, 0) 28 [(0, .ref (X.2.2.2 + t)), (1, .int p1), (2, .int p2), (3, .int p3)] [] M1 (k2 M1)) (fun M1 => ?_) (fun k2 qk2 => ?_)
  · refine qv_iconst (v := 0) (pc := 28) g dX10_plainly_28 (by decide) ?_
    refine qv_istore (pc := 29) (lv1 := [(4, .int 0), (0, .ref (X.2.2.2 + t)), (1, .int p1), (2, .int p2), (3, .int p3)]) g dX10_plainly_29 (by decide) rfl ?_
    refine qv_join (fun (k4 : qv_Mem → Option qv_Mem) => ∀ (M3 : qv_Mem), qv_V G X 6 (qv_QM G X T qv_eV (0, 0)) T (0, 0) 104 [(0, .ref (X.2.2.2 + t)), (1, .int p1), (2, .int p2), (3, .int p3)] [] M3 (k4 M3)) (fun M3 => ?_) (fun k4 qk4 => ?_)
    · refine qv_aload_n (pc := 104) g dX10_plainly_104 rfl rfl ?_
      have h1 : qv_is _ T 21 340 (qv_rf T t 0) := ht.to 0 (by decide) (by decide) rfl
      refine qv_getr (pc := 105) g fw_RX10_11 ht (by decide) (by decide) rfl dX10_plainly_105 ?_
      refine qv_sipush (v := 339) (pc := 108) g dX10_plainly_108 (by decide) ?_
      refine qv_aload_n (pc := 111) g dX10_plainly_111 rfl rfl ?_
      refine qv_iload_n (pc := 112) g dX10_plainly_112 rfl rfl ?_
      refine qv_aI rfl (qv_cv (pc := 113) g (c_X10_eOf (gl G) X (d + 1) T _ _ M3 ht) (qv_R hRm (by omega) (by decide)) ⟨Nat.zero_le _, Nat.zero_le _⟩ mw_X10_eOf lk_RX10_98 im_X10_eOf se_X10_eOf (by decide) rfl ht pd_X10_eOf rfl (Nat.le_of_ble_eq_true rfl) dX10_plainly_113) (fun v5 => ?_)
      refine qv_aload_n (pc := 116) g dX10_plainly_116 rfl rfl ?_
      refine qv_iload_n (pc := 117) g dX10_plainly_117 rfl rfl ?_
      refine qv_aI rfl (qv_cv (pc := 118) g (c_X10_eOf (gl G) X (d + 1) T _ _ M3 ht) (qv_R hRm (by omega) (by decide)) ⟨Nat.zero_le _, Nat.zero_le _⟩ mw_X10_eOf lk_RX10_98 im_X10_eOf se_X10_eOf (by decide) rfl ht pd_X10_eOf rfl (Nat.le_of_ble_eq_true rfl) dX10_plainly_118) (fun v6 => ?_)
      refine qv_iadd (pc := 121) g dX10_plainly_121 ?_
      refine qv_i2l (pc := 122) g dX10_plainly_122 ?_
      refine qv_last (pc := 123) g h1 dX10_plainly_123 (fun M7 => ?_)
      refine qv_aload_n (pc := 124) g dX10_plainly_124 rfl rfl ?_
      refine qv_bipush (v := 19) (pc := 125) g dX10_plainly_125 (by decide) ?_
      refine qv_iload_n (pc := 127) g dX10_plainly_127 rfl rfl ?_
      refine qv_aV (qv_cv (pc := 128) g (c_X10_copies (gl G) X (d + 1) T _ _ _ M7 ht) (qv_R hRm (by omega) (by decide)) ⟨Nat.zero_le _, Nat.zero_le _⟩ mw_X10_copies lk_RX10_83 im_X10_copies se_X10_copies (by decide) rfl ht pd_X10_copies rfl (Nat.le_of_ble_eq_true rfl) dX10_plainly_128) (fun M8 => ?_)
      exact qv_vret (pc := 131) g hr rfl dX10_plainly_131
    refine qv_lv [1, 2, 3, 4, 0] rfl ?_
    exact qv_L2 (Vh := fun (v9 : Int32) (M10 : qv_Mem) o => qv_V G X 6 (qv_QM G X T qv_eV (0, 0)) T (0, 0) 31 [(0, .ref (X.2.2.2 + t)), (1, .int p1), (2, .int p2), (3, .int p3), (4, .int v9)] [] M10 o) (fun _ _ => qv_none) (fun r11 qr11 v9 M10 => by
      unfold b_X10_plainly_31
      refine qv_iload (pc := 31) g dX10_plainly_31 rfl ?_
      refine qv_iconst (v := 2) (pc := 33) g dX10_plainly_33 (by decide) ?_
      refine qv_icmp_ge (pc := 34) (tgt := 104) g dX10_plainly_34 (by decide) ?_ ?_
      · refine qv_lv [0, 1, 2, 3] rfl ?_
        exact qk4 _
      · refine qv_iconst (v := 0) (pc := 37) g dX10_plainly_37 (by decide) ?_
        refine qv_istore (pc := 38) (lv1 := [(5, .int 0), (0, .ref (X.2.2.2 + t)), (1, .int p1), (2, .int p2), (3, .int p3), (4, .int v9)]) g dX10_plainly_38 (by decide) rfl ?_
        refine qv_join (fun (k13 : qv_Mem → Option qv_Mem) => ∀ (M12 : qv_Mem), qv_V G X 6 (qv_QM G X T qv_eV (0, 0)) T (0, 0) 98 [(0, .ref (X.2.2.2 + t)), (1, .int p1), (2, .int p2), (3, .int p3), (4, .int v9)] [] M12 (k13 M12)) (fun M12 => ?_) (fun k13 qk13 => ?_)
        · refine qv_iinc (pc := 98) (v := (v9 + 1)) (lv1 := [(4, .int (v9 + 1)), (0, .ref (X.2.2.2 + t)), (1, .int p1), (2, .int p2), (3, .int p3)]) g dX10_plainly_98 rfl rfl (by decide) rfl ?_
          refine qv_goto (pc := 101) (tgt := 31) g dX10_plainly_101 (by decide) ?_
          refine qv_lv [1, 2, 3, 4, 0] rfl ?_
          exact qr11 _ _
        refine qv_lv [1, 2, 3, 4, 5, 0] rfl ?_
        exact qv_L2 (Vh := fun (v14 : Int32) (M15 : qv_Mem) o => qv_V G X 6 (qv_QM G X T qv_eV (0, 0)) T (0, 0) 40 [(0, .ref (X.2.2.2 + t)), (1, .int p1), (2, .int p2), (3, .int p3), (4, .int v9), (5, .int v14)] [] M15 o) (fun _ _ => qv_none) (fun r16 qr16 v14 M15 => by
          unfold b_X10_plainly_40
          refine qv_iload (pc := 40) g dX10_plainly_40 rfl ?_
          refine qv_iconst (v := 2) (pc := 42) g dX10_plainly_42 (by decide) ?_
          refine qv_icmp_ge (pc := 43) (tgt := 98) g dX10_plainly_43 (by decide) ?_ ?_
          · refine qv_lv [0, 1, 2, 3, 4] rfl ?_
            exact qk13 _
          · refine qv_aload_n (pc := 46) g dX10_plainly_46 rfl rfl ?_
            refine qv_bipush (v := 19) (pc := 47) g dX10_plainly_47 (by decide) ?_
            refine qv_iconst (v := 2) (pc := 49) g dX10_plainly_49 (by decide) ?_
            refine qv_iload (pc := 50) g dX10_plainly_50 rfl ?_
            refine qv_imul (pc := 52) g dX10_plainly_52 ?_
            refine qv_iload (pc := 53) g dX10_plainly_53 rfl ?_
            refine qv_iadd (pc := 55) g dX10_plainly_55 ?_
            refine qv_iload_n (pc := 56) g dX10_plainly_56 rfl rfl ?_
            refine qv_iconst (v := 2) (pc := 57) g dX10_plainly_57 (by decide) ?_
            refine qv_iload (pc := 58) g dX10_plainly_58 rfl ?_
            refine qv_imul (pc := 60) g dX10_plainly_60 ?_
            refine qv_iload_n (pc := 61) g dX10_plainly_61 rfl rfl ?_
            refine qv_iload (pc := 62) g dX10_plainly_62 rfl ?_
            refine qv_aV (qv_cv (pc := 64) g (c_X10_adds (gl G) X d T _ _ _ _ _ _ _ M15 ht) (qv_R hRm (by omega) (by decide)) ⟨Nat.zero_le _, Nat.zero_le _⟩ mw_X10_adds lk_RX10_106 im_X10_adds se_X10_adds (by decide) rfl ht pd_X10_adds rfl (Nat.le_of_ble_eq_true rfl) dX10_plainly_64) (fun M17 => ?_)
            refine qv_aload_n (pc := 67) g dX10_plainly_67 rfl rfl ?_
            refine qv_bipush (v := 19) (pc := 68) g dX10_plainly_68 (by decide) ?_
            refine qv_iconst (v := 2) (pc := 70) g dX10_plainly_70 (by decide) ?_
            refine qv_iload (pc := 71) g dX10_plainly_71 rfl ?_
            refine qv_imul (pc := 73) g dX10_plainly_73 ?_
            refine qv_iload (pc := 74) g dX10_plainly_74 rfl ?_
            refine qv_iadd (pc := 76) g dX10_plainly_76 ?_
            refine qv_iload_n (pc := 77) g dX10_plainly_77 rfl rfl ?_
            refine qv_iconst (v := 2) (pc := 78) g dX10_plainly_78 (by decide) ?_
            refine qv_iload (pc := 79) g dX10_plainly_79 rfl ?_
            refine qv_imul (pc := 81) g dX10_plainly_81 ?_
            refine qv_iconst (v := 1) (pc := 82) g dX10_plainly_82 (by decide) ?_
            refine qv_iadd (pc := 83) g dX10_plainly_83 ?_
            refine qv_iload_n (pc := 84) g dX10_plainly_84 rfl rfl ?_
            refine qv_iconst (v := 2) (pc := 85) g dX10_plainly_85 (by decide) ?_
            refine qv_iload (pc := 86) g dX10_plainly_86 rfl ?_
            refine qv_iadd (pc := 88) g dX10_plainly_88 ?_
            refine qv_aV (qv_cv (pc := 89) g (c_X10_adds (gl G) X d T _ _ _ _ _ _ _ M17 ht) (qv_R hRm (by omega) (by decide)) ⟨Nat.zero_le _, Nat.zero_le _⟩ mw_X10_adds lk_RX10_106 im_X10_adds se_X10_adds (by decide) rfl ht pd_X10_adds rfl (Nat.le_of_ble_eq_true rfl) dX10_plainly_89) (fun M18 => ?_)
            refine qv_iinc (pc := 92) (v := (v14 + 1)) (lv1 := [(5, .int (v14 + 1)), (0, .ref (X.2.2.2 + t)), (1, .int p1), (2, .int p2), (3, .int p3), (4, .int v9)]) g dX10_plainly_92 rfl rfl (by decide) rfl ?_
            refine qv_goto (pc := 95) (tgt := 40) g dX10_plainly_95 (by decide) ?_
            refine qv_lv [1, 2, 3, 4, 5, 0] rfl ?_
            exact qr16 _ _) _ _ _) _ _ _
  refine qv_lv [1, 2, 3, 4, 0] rfl ?_
  exact qv_L2 (Vh := fun (v19 : Int32) (M20 : qv_Mem) o => qv_V G X 6 (qv_QM G X T qv_eV (0, 0)) T (0, 0) 3 [(0, .ref (X.2.2.2 + t)), (1, .int p1), (2, .int p2), (3, .int p3), (4, .int v19)] [] M20 o) (fun _ _ => qv_none) (fun r21 qr21 v19 M20 => by
    unfold b_X10_plainly_3
    refine qv_iload (pc := 3) g dX10_plainly_3 rfl ?_
    refine qv_bipush (v := 17) (pc := 5) g dX10_plainly_5 (by decide) ?_
    refine qv_icmp_ge (pc := 7) (tgt := 28) g dX10_plainly_7 (by decide) ?_ ?_
    · refine qv_lv [0, 1, 2, 3] rfl ?_
      exact qk2 _
    · refine qv_aload_n (pc := 10) g dX10_plainly_10 rfl rfl ?_
      have h2 : qv_is _ T 21 340 (qv_rf T t 0) := ht.to 0 (by decide) (by decide) rfl
      refine qv_getr (pc := 11) g fw_RX10_11 ht (by decide) (by decide) rfl dX10_plainly_11 ?_
      refine qv_sipush (v := 323) (pc := 14) g dX10_plainly_14 (by decide) ?_
      refine qv_iload (pc := 17) g dX10_plainly_17 rfl ?_
      refine qv_iadd (pc := 19) g dX10_plainly_19 ?_
      refine qv_lconst (v := 0) (pc := 20) g dX10_plainly_20 (by decide) ?_
      refine qv_last (pc := 21) g h2 dX10_plainly_21 (fun M22 => ?_)
      refine qv_iinc (pc := 22) (v := (v19 + 1)) (lv1 := [(4, .int (v19 + 1)), (0, .ref (X.2.2.2 + t)), (1, .int p1), (2, .int p2), (3, .int p3)]) g dX10_plainly_22 rfl rfl (by decide) rfl ?_
      refine qv_goto (pc := 25) (tgt := 3) g dX10_plainly_25 (by decide) ?_
      refine qv_lv [1, 2, 3, 4, 0] rfl ?_
      exact qr21 _ _) _ _ _

set_option maxHeartbeats 4000000 in
set_option maxRecDepth 100000 in
theorem c_X10_isOver (l : Launch) (X : qv_X) (d : Nat) (T : List qv_Ent) (t : Nat) (p1 : Int32) (M : qv_Mem) {nt : Nat} (ht : qv_is (nt + 1) T 10 29 t) : qv_Ok l X yX10_isOver cX10_isOver 4 (some .boolean) (d + 1) T M [.ref (X.2.2.2 + t), .int p1] (qv_eI M) (f_X10_isOver T t p1 M) := by
  refine qv_mk (lv := [(0, .ref (X.2.2.2 + t)), (1, .int p1)]) (by decide) (Nat.le_of_ble_eq_true rfl) rfl (fun G hG hRm g hr => ?_)
  have g : qv_ok G X cX10_isOver RX10 4 := g
  unfold f_X10_isOver
  refine qv_iconst (v := 1) (pc := 0) g dX10_isOver_0 (by decide) ?_
  refine qv_istore_n (pc := 1) (lv1 := [(2, .int 1), (0, .ref (X.2.2.2 + t)), (1, .int p1)]) g dX10_isOver_1 rfl (by decide) rfl ?_
  refine qv_iconst (v := 0) (pc := 2) g dX10_isOver_2 (by decide) ?_
  refine qv_istore_n (pc := 3) (lv1 := [(3, .int 0), (2, .int 1), (0, .ref (X.2.2.2 + t)), (1, .int p1)]) g dX10_isOver_3 rfl (by decide) rfl ?_
  refine qv_join (fun (k2 : Int32 → Option Int32) => ∀ (v1 : Int32), qv_V G X 4 (qv_QM G X T (qv_eI M) (0, 0)) T (0, 0) 71 [(2, .int v1)] [] M (k2 v1)) (fun v1 => ?_) (fun k2 qk2 => ?_)
  · refine qv_iload_n (pc := 71) g dX10_isOver_71 rfl rfl ?_
    exact qv_zretg (pc := 72) g hr rfl dX10_isOver_72
  refine qv_lv [2, 3, 1, 0] rfl ?_
  exact qv_L2 (Vh := fun (v3 : Int32) (v4 : Int32) o => qv_V G X 4 (qv_QM G X T (qv_eI M) (0, 0)) T (0, 0) 4 [(0, .ref (X.2.2.2 + t)), (1, .int p1), (2, .int v3), (3, .int v4)] [] M o) (fun _ _ => qv_none) (fun r5 qr5 v3 v4 => by
    unfold b_X10_isOver_4
    refine qv_iload_n (pc := 4) g dX10_isOver_4 rfl rfl ?_
    refine qv_iconst (v := 4) (pc := 5) g dX10_isOver_5 (by decide) ?_
    refine qv_icmp_ge (pc := 6) (tgt := 71) g dX10_isOver_6 (by decide) ?_ ?_
    · refine qv_lv [2] rfl ?_
      exact qk2 _
    · refine qv_iload_n (pc := 9) g dX10_isOver_9 rfl rfl ?_
      refine qv_aload_n (pc := 10) g dX10_isOver_10 rfl rfl ?_
      refine qv_iload_n (pc := 11) g dX10_isOver_11 rfl rfl ?_
      refine qv_iload_n (pc := 12) g dX10_isOver_12 rfl rfl ?_
      refine qv_iconst (v := 0) (pc := 13) g dX10_isOver_13 (by decide) ?_
      refine qv_aL rfl (qv_cv (pc := 14) g (c_X10_at (gl G) X d T _ _ _ _ M ht) (qv_R hRm (by omega) (by decide)) ⟨Nat.zero_le _, Nat.zero_le _⟩ mw_X10_at lk_RX10_92 im_X10_at se_X10_at (by decide) rfl ht pd_X10_at rfl (Nat.le_of_ble_eq_true rfl) dX10_isOver_14) (fun v6 => ?_)
      refine qv_aload_n (pc := 17) g dX10_isOver_17 rfl rfl ?_
      refine qv_iload_n (pc := 18) g dX10_isOver_18 rfl rfl ?_
      refine qv_iload_n (pc := 19) g dX10_isOver_19 rfl rfl ?_
      refine qv_iconst (v := 2) (pc := 20) g dX10_isOver_20 (by decide) ?_
      refine qv_aL rfl (qv_cv (pc := 21) g (c_X10_at (gl G) X d T _ _ _ _ M ht) (qv_R hRm (by omega) (by decide)) ⟨Nat.zero_le _, Nat.zero_le _⟩ mw_X10_at lk_RX10_92 im_X10_at se_X10_at (by decide) rfl ht pd_X10_at rfl (Nat.le_of_ble_eq_true rfl) dX10_isOver_21) (fun v7 => ?_)
      refine qv_ladd (pc := 24) g dX10_isOver_24 ?_
      refine qv_ldc2 (pc := 25) g kl_RX10_96 dX10_isOver_25 ?_
      refine qv_lrem (pc := 28) g dX10_isOver_28 (by decide) ?_
      refine qv_lconst (v := 0) (pc := 29) g dX10_isOver_29 (by decide) ?_
      refine qv_lcmp (pc := 30) g dX10_isOver_30 ?_
      refine qv_join (fun (k9 : Int32 → Option Int32) => ∀ (v8 : Int32), qv_V G X 4 (qv_QM G X T (qv_eI M) (0, 0)) T (0, 0) 63 [(0, .ref (X.2.2.2 + t)), (1, .int p1), (3, .int v4)] [.int v8, .int v3] M (k9 v8)) (fun v8 => ?_) (fun k9 qk9 => ?_)
      · refine qv_iand (pc := 63) g dX10_isOver_63 ?_
        refine qv_istore_n (pc := 64) (lv1 := [(2, .int (v3 &&& v8)), (0, .ref (X.2.2.2 + t)), (1, .int p1), (3, .int v4)]) g dX10_isOver_64 rfl (by decide) rfl ?_
        refine qv_iinc (pc := 65) (v := (v4 + 1)) (lv1 := [(3, .int (v4 + 1)), (2, .int (v3 &&& v8)), (0, .ref (X.2.2.2 + t)), (1, .int p1)]) g dX10_isOver_65 rfl rfl (by decide) rfl ?_
        refine qv_goto (pc := 68) (tgt := 4) g dX10_isOver_68 (by decide) ?_
        refine qv_lv [2, 3, 1, 0] rfl ?_
        exact qr5 _ _
      refine qv_if_ne (pc := 31) (tgt := 62) g dX10_isOver_31 (by decide) ?_ ?_
      · refine qv_iconst (v := 0) (pc := 62) g dX10_isOver_62 (by decide) ?_
        refine qv_lv [0, 1, 3] rfl ?_
        exact qk9 _
      · refine qv_aload_n (pc := 34) g dX10_isOver_34 rfl rfl ?_
        refine qv_iload_n (pc := 35) g dX10_isOver_35 rfl rfl ?_
        refine qv_iload_n (pc := 36) g dX10_isOver_36 rfl rfl ?_
        refine qv_iconst (v := 1) (pc := 37) g dX10_isOver_37 (by decide) ?_
        refine qv_aL rfl (qv_cv (pc := 38) g (c_X10_at (gl G) X d T _ _ _ _ M ht) (qv_R hRm (by omega) (by decide)) ⟨Nat.zero_le _, Nat.zero_le _⟩ mw_X10_at lk_RX10_92 im_X10_at se_X10_at (by decide) rfl ht pd_X10_at rfl (Nat.le_of_ble_eq_true rfl) dX10_isOver_38) (fun v10 => ?_)
        refine qv_aload_n (pc := 41) g dX10_isOver_41 rfl rfl ?_
        refine qv_iload_n (pc := 42) g dX10_isOver_42 rfl rfl ?_
        refine qv_iload_n (pc := 43) g dX10_isOver_43 rfl rfl ?_
        refine qv_iconst (v := 3) (pc := 44) g dX10_isOver_44 (by decide) ?_
        refine qv_aL rfl (qv_cv (pc := 45) g (c_X10_at (gl G) X d T _ _ _ _ M ht) (qv_R hRm (by omega) (by decide)) ⟨Nat.zero_le _, Nat.zero_le _⟩ mw_X10_at lk_RX10_92 im_X10_at se_X10_at (by decide) rfl ht pd_X10_at rfl (Nat.le_of_ble_eq_true rfl) dX10_isOver_45) (fun v11 => ?_)
        refine qv_ladd (pc := 48) g dX10_isOver_48 ?_
        refine qv_ldc2 (pc := 49) g kl_RX10_96 dX10_isOver_49 ?_
        refine qv_lrem (pc := 52) g dX10_isOver_52 (by decide) ?_
        refine qv_lconst (v := 0) (pc := 53) g dX10_isOver_53 (by decide) ?_
        refine qv_lcmp (pc := 54) g dX10_isOver_54 ?_
        refine qv_if_ne (pc := 55) (tgt := 62) g dX10_isOver_55 (by decide) ?_ ?_
        · refine qv_iconst (v := 0) (pc := 62) g dX10_isOver_62 (by decide) ?_
          refine qv_lv [0, 1, 3] rfl ?_
          exact qk9 _
        · refine qv_iconst (v := 1) (pc := 58) g dX10_isOver_58 (by decide) ?_
          refine qv_goto (pc := 59) (tgt := 63) g dX10_isOver_59 (by decide) ?_
          refine qv_lv [0, 1, 3] rfl ?_
          exact qk9 _) _ _ _

set_option maxHeartbeats 4000000 in
set_option maxRecDepth 100000 in
theorem c_X10_lowers (l : Launch) (X : qv_X) (d : Nat) (T : List qv_Ent) (t : Nat) (p1 : Int32) (M : qv_Mem) {nt : Nat} (ht : qv_is (nt + 1) T 10 29 t) : qv_Ok l X yX10_lowers cX10_lowers 11 none (d + 2) T M [.ref (X.2.2.2 + t), .int p1] qv_eV (f_X10_lowers T t p1 M) := by
  refine qv_mk (lv := [(0, .ref (X.2.2.2 + t)), (1, .int p1)]) (by decide) (Nat.le_of_ble_eq_true rfl) rfl (fun G hG hRm g hr => ?_)
  have g : qv_ok G X cX10_lowers RX10 11 := g
  unfold f_X10_lowers
  refine qv_join (fun (k2 : qv_Mem → Option qv_Mem) => ∀ (M1 : qv_Mem), qv_V G X 11 (qv_QM G X T qv_eV (0, 0)) T (0, 0) 145 [] [] M1 (k2 M1)) (fun M1 => ?_) (fun k2 qk2 => ?_)
  · exact qv_vret (pc := 145) g hr rfl dX10_lowers_145
  exact qv_L1 (Vh := fun (M3 : qv_Mem) o => qv_V G X 11 (qv_QM G X T qv_eV (0, 0)) T (0, 0) 0 [(0, .ref (X.2.2.2 + t)), (1, .int p1)] [] M3 o) (fun _ => qv_none) (fun r4 qr4 M3 => by
    unfold b_X10_lowers_0
    refine qv_aload_n (pc := 0) g dX10_lowers_0 rfl rfl ?_
    refine qv_iload_n (pc := 1) g dX10_lowers_1 rfl rfl ?_
    refine qv_aI rfl (qv_cv (pc := 2) g (c_X10_eOf (gl G) X (d + 1) T _ _ M3 ht) (qv_R hRm (by omega) (by decide)) ⟨Nat.zero_le _, Nat.zero_le _⟩ mw_X10_eOf lk_RX10_98 im_X10_eOf se_X10_eOf (by decide) rfl ht pd_X10_eOf rfl (Nat.le_of_ble_eq_true rfl) dX10_lowers_2) (fun v5 => ?_)
    refine qv_if_le (pc := 5) (tgt := 145) g dX10_lowers_5 (by decide) ?_ ?_
    · refine qv_lv [] rfl ?_
      exact qk2 _
    · refine qv_aload_n (pc := 8) g dX10_lowers_8 rfl rfl ?_
      refine qv_iload_n (pc := 9) g dX10_lowers_9 rfl rfl ?_
      refine qv_aI rfl (qv_cv (pc := 10) g (c_X10_isOver (gl G) X d T _ _ M3 ht) (qv_R hRm (by omega) (by decide)) ⟨Nat.zero_le _, Nat.zero_le _⟩ mw_X10_isOver lk_RX10_102 im_X10_isOver se_X10_isOver (by decide) rfl ht pd_X10_isOver rfl (Nat.le_of_ble_eq_true rfl) dX10_lowers_10) (fun v6 => ?_)
      refine qv_if_eq (pc := 13) (tgt := 145) g dX10_lowers_13 (by decide) ?_ ?_
      · refine qv_lv [] rfl ?_
        exact qk2 _
      · refine qv_iconst (v := 0) (pc := 16) g dX10_lowers_16 (by decide) ?_
        refine qv_istore_n (pc := 17) (lv1 := [(2, .int 0), (0, .ref (X.2.2.2 + t)), (1, .int p1)]) g dX10_lowers_17 rfl (by decide) rfl ?_
        refine qv_join (fun (k8 : qv_Mem → Option qv_Mem) => ∀ (M7 : qv_Mem), qv_V G X 11 (qv_QM G X T qv_eV (0, 0)) T (0, 0) 126 [(0, .ref (X.2.2.2 + t)), (1, .int p1)] [] M7 (k8 M7)) (fun M7 => ?_) (fun k8 qk8 => ?_)
        · refine qv_aload_n (pc := 126) g dX10_lowers_126 rfl rfl ?_
          have h1 : qv_is _ T 21 340 (qv_rf T t 0) := ht.to 0 (by decide) (by decide) rfl
          refine qv_getr (pc := 127) g fw_RX10_11 ht (by decide) (by decide) rfl dX10_lowers_127 ?_
          refine qv_bipush (v := 17) (pc := 130) g dX10_lowers_130 (by decide) ?_
          refine qv_iload_n (pc := 132) g dX10_lowers_132 rfl rfl ?_
          refine qv_imul (pc := 133) g dX10_lowers_133 ?_
          refine qv_bipush (v := 16) (pc := 134) g dX10_lowers_134 (by decide) ?_
          refine qv_iadd (pc := 136) g dX10_lowers_136 ?_
          refine qv_dup2 (pc := 137) g dX10_lowers_137 rfl rfl ?_
          refine qv_lald (pc := 138) g h1 dX10_lowers_138 (fun v9 => ?_)
          refine qv_lconst (v := 1) (pc := 139) g dX10_lowers_139 (by decide) ?_
          refine qv_lsub (pc := 140) g dX10_lowers_140 ?_
          refine qv_last (pc := 141) g h1 dX10_lowers_141 (fun M10 => ?_)
          refine qv_goto (pc := 142) (tgt := 0) g dX10_lowers_142 (by decide) ?_
          exact qr4 _
        refine qv_lv [1, 2, 0] rfl ?_
        exact qv_L2 (Vh := fun (v11 : Int32) (M12 : qv_Mem) o => qv_V G X 11 (qv_QM G X T qv_eV (0, 0)) T (0, 0) 18 [(0, .ref (X.2.2.2 + t)), (1, .int p1), (2, .int v11)] [] M12 o) (fun _ _ => qv_none) (fun r13 qr13 v11 M12 => by
          unfold b_X10_lowers_18
          refine qv_iload_n (pc := 18) g dX10_lowers_18 rfl rfl ?_
          refine qv_iconst (v := 4) (pc := 19) g dX10_lowers_19 (by decide) ?_
          refine qv_icmp_ge (pc := 20) (tgt := 126) g dX10_lowers_20 (by decide) ?_ ?_
          · refine qv_lv [0, 1] rfl ?_
            exact qk8 _
          · refine qv_aload_n (pc := 23) g dX10_lowers_23 rfl rfl ?_
            refine qv_iload_n (pc := 24) g dX10_lowers_24 rfl rfl ?_
            refine qv_iload_n (pc := 25) g dX10_lowers_25 rfl rfl ?_
            refine qv_iconst (v := 0) (pc := 26) g dX10_lowers_26 (by decide) ?_
            refine qv_aL rfl (qv_cv (pc := 27) g (c_X10_at (gl G) X (d + 1) T _ _ _ _ M12 ht) (qv_R hRm (by omega) (by decide)) ⟨Nat.zero_le _, Nat.zero_le _⟩ mw_X10_at lk_RX10_92 im_X10_at se_X10_at (by decide) rfl ht pd_X10_at rfl (Nat.le_of_ble_eq_true rfl) dX10_lowers_27) (fun v14 => ?_)
            refine qv_lstore_n (pc := 30) (lv1 := [(3, .long v14), (0, .ref (X.2.2.2 + t)), (1, .int p1), (2, .int v11)]) g dX10_lowers_30 rfl (by decide) rfl ?_
            refine qv_aload_n (pc := 31) g dX10_lowers_31 rfl rfl ?_
            refine qv_iload_n (pc := 32) g dX10_lowers_32 rfl rfl ?_
            refine qv_iload_n (pc := 33) g dX10_lowers_33 rfl rfl ?_
            refine qv_iconst (v := 1) (pc := 34) g dX10_lowers_34 (by decide) ?_
            refine qv_aL rfl (qv_cv (pc := 35) g (c_X10_at (gl G) X (d + 1) T _ _ _ _ M12 ht) (qv_R hRm (by omega) (by decide)) ⟨Nat.zero_le _, Nat.zero_le _⟩ mw_X10_at lk_RX10_92 im_X10_at se_X10_at (by decide) rfl ht pd_X10_at rfl (Nat.le_of_ble_eq_true rfl) dX10_lowers_35) (fun v15 => ?_)
            refine qv_lstore (pc := 38) (lv1 := [(5, .long v15), (3, .long v14), (0, .ref (X.2.2.2 + t)), (1, .int p1), (2, .int v11)]) g dX10_lowers_38 (by decide) rfl ?_
            refine qv_aload_n (pc := 40) g dX10_lowers_40 rfl rfl ?_
            refine qv_iload_n (pc := 41) g dX10_lowers_41 rfl rfl ?_
            refine qv_iload_n (pc := 42) g dX10_lowers_42 rfl rfl ?_
            refine qv_iconst (v := 2) (pc := 43) g dX10_lowers_43 (by decide) ?_
            refine qv_aL rfl (qv_cv (pc := 44) g (c_X10_at (gl G) X (d + 1) T _ _ _ _ M12 ht) (qv_R hRm (by omega) (by decide)) ⟨Nat.zero_le _, Nat.zero_le _⟩ mw_X10_at lk_RX10_92 im_X10_at se_X10_at (by decide) rfl ht pd_X10_at rfl (Nat.le_of_ble_eq_true rfl) dX10_lowers_44) (fun v16 => ?_)
            refine qv_lstore (pc := 47) (lv1 := [(7, .long v16), (5, .long v15), (3, .long v14), (0, .ref (X.2.2.2 + t)), (1, .int p1), (2, .int v11)]) g dX10_lowers_47 (by decide) rfl ?_
            refine qv_aload_n (pc := 49) g dX10_lowers_49 rfl rfl ?_
            refine qv_iload_n (pc := 50) g dX10_lowers_50 rfl rfl ?_
            refine qv_iload_n (pc := 51) g dX10_lowers_51 rfl rfl ?_
            refine qv_iconst (v := 3) (pc := 52) g dX10_lowers_52 (by decide) ?_
            refine qv_aL rfl (qv_cv (pc := 53) g (c_X10_at (gl G) X (d + 1) T _ _ _ _ M12 ht) (qv_R hRm (by omega) (by decide)) ⟨Nat.zero_le _, Nat.zero_le _⟩ mw_X10_at lk_RX10_92 im_X10_at se_X10_at (by decide) rfl ht pd_X10_at rfl (Nat.le_of_ble_eq_true rfl) dX10_lowers_53) (fun v17 => ?_)
            refine qv_lstore (pc := 56) (lv1 := [(9, .long v17), (7, .long v16), (5, .long v15), (3, .long v14), (0, .ref (X.2.2.2 + t)), (1, .int p1), (2, .int v11)]) g dX10_lowers_56 (by decide) rfl ?_
            refine qv_aload_n (pc := 58) g dX10_lowers_58 rfl rfl ?_
            refine qv_iload_n (pc := 59) g dX10_lowers_59 rfl rfl ?_
            refine qv_iload_n (pc := 60) g dX10_lowers_60 rfl rfl ?_
            refine qv_iconst (v := 0) (pc := 61) g dX10_lowers_61 (by decide) ?_
            refine qv_lload (pc := 62) g dX10_lowers_62 rfl ?_
            refine qv_lload (pc := 64) g dX10_lowers_64 rfl ?_
            refine qv_lsub (pc := 66) g dX10_lowers_66 ?_
            refine qv_ldc2 (pc := 67) g kl_RX10_96 dX10_lowers_67 ?_
            refine qv_ldiv (pc := 70) g dX10_lowers_70 (by decide) ?_
            refine qv_aV (qv_cv (pc := 71) g (c_X10_number (gl G) X (d + 1) T _ _ _ _ _ M12 ht) (qv_R hRm (by omega) (by decide)) ⟨Nat.zero_le _, Nat.zero_le _⟩ mw_X10_number lk_RX10_76 im_X10_number se_X10_number (by decide) rfl ht pd_X10_number rfl (Nat.le_of_ble_eq_true rfl) dX10_lowers_71) (fun M18 => ?_)
            refine qv_aload_n (pc := 74) g dX10_lowers_74 rfl rfl ?_
            refine qv_iload_n (pc := 75) g dX10_lowers_75 rfl rfl ?_
            refine qv_iload_n (pc := 76) g dX10_lowers_76 rfl rfl ?_
            refine qv_iconst (v := 1) (pc := 77) g dX10_lowers_77 (by decide) ?_
            refine qv_lload_n (pc := 78) g dX10_lowers_78 rfl rfl ?_
            refine qv_lload (pc := 79) g dX10_lowers_79 rfl ?_
            refine qv_ladd (pc := 81) g dX10_lowers_81 ?_
            refine qv_ldc2 (pc := 82) g kl_RX10_96 dX10_lowers_82 ?_
            refine qv_ldiv (pc := 85) g dX10_lowers_85 (by decide) ?_
            refine qv_aV (qv_cv (pc := 86) g (c_X10_number (gl G) X (d + 1) T _ _ _ _ _ M18 ht) (qv_R hRm (by omega) (by decide)) ⟨Nat.zero_le _, Nat.zero_le _⟩ mw_X10_number lk_RX10_76 im_X10_number se_X10_number (by decide) rfl ht pd_X10_number rfl (Nat.le_of_ble_eq_true rfl) dX10_lowers_86) (fun M19 => ?_)
            refine qv_aload_n (pc := 89) g dX10_lowers_89 rfl rfl ?_
            refine qv_iload_n (pc := 90) g dX10_lowers_90 rfl rfl ?_
            refine qv_iload_n (pc := 91) g dX10_lowers_91 rfl rfl ?_
            refine qv_iconst (v := 2) (pc := 92) g dX10_lowers_92 (by decide) ?_
            refine qv_lload (pc := 93) g dX10_lowers_93 rfl ?_
            refine qv_lload (pc := 95) g dX10_lowers_95 rfl ?_
            refine qv_ladd (pc := 97) g dX10_lowers_97 ?_
            refine qv_ldc2 (pc := 98) g kl_RX10_96 dX10_lowers_98 ?_
            refine qv_ldiv (pc := 101) g dX10_lowers_101 (by decide) ?_
            refine qv_aV (qv_cv (pc := 102) g (c_X10_number (gl G) X (d + 1) T _ _ _ _ _ M19 ht) (qv_R hRm (by omega) (by decide)) ⟨Nat.zero_le _, Nat.zero_le _⟩ mw_X10_number lk_RX10_76 im_X10_number se_X10_number (by decide) rfl ht pd_X10_number rfl (Nat.le_of_ble_eq_true rfl) dX10_lowers_102) (fun M20 => ?_)
            refine qv_aload_n (pc := 105) g dX10_lowers_105 rfl rfl ?_
            refine qv_iload_n (pc := 106) g dX10_lowers_106 rfl rfl ?_
            refine qv_iload_n (pc := 107) g dX10_lowers_107 rfl rfl ?_
            refine qv_iconst (v := 3) (pc := 108) g dX10_lowers_108 (by decide) ?_
            refine qv_lload (pc := 109) g dX10_lowers_109 rfl ?_
            refine qv_lload_n (pc := 111) g dX10_lowers_111 rfl rfl ?_
            refine qv_lsub (pc := 112) g dX10_lowers_112 ?_
            refine qv_ldc2 (pc := 113) g kl_RX10_96 dX10_lowers_113 ?_
            refine qv_ldiv (pc := 116) g dX10_lowers_116 (by decide) ?_
            refine qv_aV (qv_cv (pc := 117) g (c_X10_number (gl G) X (d + 1) T _ _ _ _ _ M20 ht) (qv_R hRm (by omega) (by decide)) ⟨Nat.zero_le _, Nat.zero_le _⟩ mw_X10_number lk_RX10_76 im_X10_number se_X10_number (by decide) rfl ht pd_X10_number rfl (Nat.le_of_ble_eq_true rfl) dX10_lowers_117) (fun M21 => ?_)
            refine qv_iinc (pc := 120) (v := (v11 + 1)) (lv1 := [(2, .int (v11 + 1)), (9, .long v17), (7, .long v16), (5, .long v15), (3, .long v14), (0, .ref (X.2.2.2 + t)), (1, .int p1)]) g dX10_lowers_120 rfl rfl (by decide) rfl ?_
            refine qv_goto (pc := 123) (tgt := 18) g dX10_lowers_123 (by decide) ?_
            refine qv_lv [5, 6, 0] rfl ?_
            exact qr13 _ _) _ _ _) _ _

set_option maxHeartbeats 4000000 in
set_option maxRecDepth 100000 in
theorem c_X10_product (l : Launch) (X : qv_X) (d : Nat) (T : List qv_Ent) (t : Nat) (p1 : Int32) (p2 : Int32) (p3 : Int32) (M : qv_Mem) {nt : Nat} (ht : qv_is (nt + 1) T 10 29 t) : qv_Ok l X yX10_product cX10_product 4 none (d + 3) T M [.ref (X.2.2.2 + t), .int p1, .int p2, .int p3] qv_eV (f_X10_product T t p1 p2 p3 M) := by
  refine qv_mk (lv := [(0, .ref (X.2.2.2 + t)), (1, .int p1), (2, .int p2), (3, .int p3)]) (by decide) (Nat.le_of_ble_eq_true rfl) rfl (fun G hG hRm g hr => ?_)
  have g : qv_ok G X cX10_product RX10 4 := g
  unfold f_X10_product
  refine qv_aload_n (pc := 0) g dX10_product_0 rfl rfl ?_
  refine qv_iload_n (pc := 1) g dX10_product_1 rfl rfl ?_
  refine qv_iload_n (pc := 2) g dX10_product_2 rfl rfl ?_
  refine qv_iload_n (pc := 3) g dX10_product_3 rfl rfl ?_
  refine qv_aV (qv_cv (pc := 4) g (c_X10_plainly (gl G) X d T _ _ _ _ M ht) (qv_R hRm (by omega) (by decide)) ⟨Nat.zero_le _, Nat.zero_le _⟩ mw_X10_plainly lk_RX10_110 im_X10_plainly se_X10_plainly (by decide) rfl ht pd_X10_plainly rfl (Nat.le_of_ble_eq_true rfl) dX10_product_4) (fun M1 => ?_)
  refine qv_aload_n (pc := 7) g dX10_product_7 rfl rfl ?_
  refine qv_iload_n (pc := 8) g dX10_product_8 rfl rfl ?_
  refine qv_aV (qv_cv (pc := 9) g (c_X10_lowers (gl G) X d T _ _ M1 ht) (qv_R hRm (by omega) (by decide)) ⟨Nat.zero_le _, Nat.zero_le _⟩ mw_X10_lowers lk_RX10_114 im_X10_lowers se_X10_lowers (by decide) rfl ht pd_X10_lowers rfl (Nat.le_of_ble_eq_true rfl) dX10_product_9) (fun M2 => ?_)
  exact qv_vret (pc := 12) g hr rfl dX10_product_12

set_option maxHeartbeats 4000000 in
set_option maxRecDepth 100000 in
theorem c_X10_cliffordOf (l : Launch) (X : qv_X) (d : Nat) (T : List qv_Ent) (t : Nat) (p1 : Int32) (M : qv_Mem) {nt : Nat} (ht : qv_is (nt + 1) T 10 29 t) : qv_Ok l X yX10_cliffordOf cX10_cliffordOf 5 (some .int) (d) T M [.ref (X.2.2.2 + t), .int p1] (qv_eI M) (f_X10_cliffordOf T t p1 M) := by
  refine qv_mk (lv := [(0, .ref (X.2.2.2 + t)), (1, .int p1)]) (by decide) (Nat.le_of_ble_eq_true rfl) rfl (fun G hG hRm g hr => ?_)
  have g : qv_ok G X cX10_cliffordOf RX10 5 := g
  unfold f_X10_cliffordOf
  refine qv_iconst (v := 0) (pc := 0) g dX10_cliffordOf_0 (by decide) ?_
  refine qv_istore_n (pc := 1) (lv1 := [(2, .int 0), (0, .ref (X.2.2.2 + t)), (1, .int p1)]) g dX10_cliffordOf_1 rfl (by decide) rfl ?_
  refine qv_join (fun (k1 : Unit → Option Int32) => ∀ (_ : Unit), qv_V G X 5 (qv_QM G X T (qv_eI M) (0, 0)) T (0, 0) 78 [] [] M (k1 ())) (fun _ => ?_) (fun k1 qk1 => ?_)
  · refine qv_bipush (v := (-2)) (pc := 78) g dX10_cliffordOf_78 (by decide) ?_
    exact qv_iret (pc := 80) g hr rfl dX10_cliffordOf_80
  refine qv_lv [1, 2, 0] rfl ?_
  exact qv_L1 (Vh := fun (v2 : Int32) o => qv_V G X 5 (qv_QM G X T (qv_eI M) (0, 0)) T (0, 0) 2 [(0, .ref (X.2.2.2 + t)), (1, .int p1), (2, .int v2)] [] M o) (fun _ => qv_none) (fun r3 qr3 v2 => by
    unfold b_X10_cliffordOf_2
    refine qv_iload_n (pc := 2) g dX10_cliffordOf_2 rfl rfl ?_
    refine qv_aload_n (pc := 3) g dX10_cliffordOf_3 rfl rfl ?_
    refine qv_gets (pc := 4) g fw_RX10_150 ht (by decide) (by decide) rfl dX10_cliffordOf_4 (fun v4 => ?_)
    refine qv_icmp_ge (pc := 7) (tgt := 78) g dX10_cliffordOf_7 (by decide) ?_ ?_
    · refine qv_lv [] rfl ?_
      exact qk1 ()
    · refine qv_iconst (v := 1) (pc := 10) g dX10_cliffordOf_10 (by decide) ?_
      refine qv_istore_n (pc := 11) (lv1 := [(3, .int 1), (0, .ref (X.2.2.2 + t)), (1, .int p1), (2, .int v2)]) g dX10_cliffordOf_11 rfl (by decide) rfl ?_
      refine qv_iconst (v := 0) (pc := 12) g dX10_cliffordOf_12 (by decide) ?_
      refine qv_istore (pc := 13) (lv1 := [(4, .int 0), (3, .int 1), (0, .ref (X.2.2.2 + t)), (1, .int p1), (2, .int v2)]) g dX10_cliffordOf_13 (by decide) rfl ?_
      refine qv_join (fun (k6 : Int32 → Option Int32) => ∀ (v5 : Int32), qv_V G X 5 (qv_QM G X T (qv_eI M) (0, 0)) T (0, 0) 66 [(0, .ref (X.2.2.2 + t)), (1, .int p1), (2, .int v2), (3, .int v5)] [] M (k6 v5)) (fun v5 => ?_) (fun k6 qk6 => ?_)
      · refine qv_iload_n (pc := 66) g dX10_cliffordOf_66 rfl rfl ?_
        refine qv_if_eq (pc := 67) (tgt := 72) g dX10_cliffordOf_67 (by decide) ?_ ?_
        · refine qv_iinc (pc := 72) (v := (v2 + 1)) (lv1 := [(2, .int (v2 + 1)), (0, .ref (X.2.2.2 + t)), (1, .int p1), (3, .int v5)]) g dX10_cliffordOf_72 rfl rfl (by decide) rfl ?_
          refine qv_goto (pc := 75) (tgt := 2) g dX10_cliffordOf_75 (by decide) ?_
          refine qv_lv [1, 2, 0] rfl ?_
          exact qr3 _
        · refine qv_iload_n (pc := 70) g dX10_cliffordOf_70 rfl rfl ?_
          exact qv_iret (pc := 71) g hr rfl dX10_cliffordOf_71
      refine qv_lv [2, 3, 4, 1, 0] rfl ?_
      exact qv_L2 (Vh := fun (v7 : Int32) (v8 : Int32) o => qv_V G X 5 (qv_QM G X T (qv_eI M) (0, 0)) T (0, 0) 15 [(0, .ref (X.2.2.2 + t)), (1, .int p1), (2, .int v2), (3, .int v7), (4, .int v8)] [] M o) (fun _ _ => qv_none) (fun r9 qr9 v7 v8 => by
        unfold b_X10_cliffordOf_15
        refine qv_iload (pc := 15) g dX10_cliffordOf_15 rfl ?_
        refine qv_bipush (v := 17) (pc := 17) g dX10_cliffordOf_17 (by decide) ?_
        refine qv_icmp_ge (pc := 19) (tgt := 66) g dX10_cliffordOf_19 (by decide) ?_ ?_
        · refine qv_lv [0, 1, 2, 3] rfl ?_
          exact qk6 _
        · refine qv_iload_n (pc := 22) g dX10_cliffordOf_22 rfl rfl ?_
          refine qv_if_eq (pc := 23) (tgt := 66) g dX10_cliffordOf_23 (by decide) ?_ ?_
          · refine qv_lv [0, 1, 2, 3] rfl ?_
            exact qk6 _
          · refine qv_aload_n (pc := 26) g dX10_cliffordOf_26 rfl rfl ?_
            have h1 : qv_is _ T 21 3264 (qv_rf T t 1) := ht.to 1 (by decide) (by decide) rfl
            refine qv_getr (pc := 27) g fw_RX10_15 ht (by decide) (by decide) rfl dX10_cliffordOf_27 ?_
            refine qv_bipush (v := 17) (pc := 30) g dX10_cliffordOf_30 (by decide) ?_
            refine qv_iload_n (pc := 32) g dX10_cliffordOf_32 rfl rfl ?_
            refine qv_imul (pc := 33) g dX10_cliffordOf_33 ?_
            refine qv_iload (pc := 34) g dX10_cliffordOf_34 rfl ?_
            refine qv_iadd (pc := 36) g dX10_cliffordOf_36 ?_
            refine qv_lald (pc := 37) g h1 dX10_cliffordOf_37 (fun v10 => ?_)
            refine qv_aload_n (pc := 38) g dX10_cliffordOf_38 rfl rfl ?_
            have h2 : qv_is _ T 21 340 (qv_rf T t 0) := ht.to 0 (by decide) (by decide) rfl
            refine qv_getr (pc := 39) g fw_RX10_11 ht (by decide) (by decide) rfl dX10_cliffordOf_39 ?_
            refine qv_bipush (v := 17) (pc := 42) g dX10_cliffordOf_42 (by decide) ?_
            refine qv_iload_n (pc := 44) g dX10_cliffordOf_44 rfl rfl ?_
            refine qv_imul (pc := 45) g dX10_cliffordOf_45 ?_
            refine qv_iload (pc := 46) g dX10_cliffordOf_46 rfl ?_
            refine qv_iadd (pc := 48) g dX10_cliffordOf_48 ?_
            refine qv_lald (pc := 49) g h2 dX10_cliffordOf_49 (fun v11 => ?_)
            refine qv_lcmp (pc := 50) g dX10_cliffordOf_50 ?_
            refine qv_join (fun (k13 : Int32 → Option Int32) => ∀ (v12 : Int32), qv_V G X 5 (qv_QM G X T (qv_eI M) (0, 0)) T (0, 0) 59 [(0, .ref (X.2.2.2 + t)), (1, .int p1), (2, .int v2), (4, .int v8)] [.int v12] M (k13 v12)) (fun v12 => ?_) (fun k13 qk13 => ?_)
            · refine qv_istore_n (pc := 59) (lv1 := [(3, .int v12), (0, .ref (X.2.2.2 + t)), (1, .int p1), (2, .int v2), (4, .int v8)]) g dX10_cliffordOf_59 rfl (by decide) rfl ?_
              refine qv_iinc (pc := 60) (v := (v8 + 1)) (lv1 := [(4, .int (v8 + 1)), (3, .int v12), (0, .ref (X.2.2.2 + t)), (1, .int p1), (2, .int v2)]) g dX10_cliffordOf_60 rfl rfl (by decide) rfl ?_
              refine qv_goto (pc := 63) (tgt := 15) g dX10_cliffordOf_63 (by decide) ?_
              refine qv_lv [2, 3, 4, 1, 0] rfl ?_
              exact qr9 _ _
            refine qv_if_ne (pc := 51) (tgt := 58) g dX10_cliffordOf_51 (by decide) ?_ ?_
            · refine qv_iconst (v := 0) (pc := 58) g dX10_cliffordOf_58 (by decide) ?_
              refine qv_lv [0, 1, 2, 4] rfl ?_
              exact qk13 _
            · refine qv_iconst (v := 1) (pc := 54) g dX10_cliffordOf_54 (by decide) ?_
              refine qv_goto (pc := 55) (tgt := 59) g dX10_cliffordOf_55 (by decide) ?_
              refine qv_lv [0, 1, 2, 4] rfl ?_
              exact qk13 _) _ _ _) _ _

set_option maxHeartbeats 4000000 in
set_option maxRecDepth 100000 in
theorem c_X10_isClifford (l : Launch) (X : qv_X) (d : Nat) (T : List qv_Ent) (p0 : Int32) (M : qv_Mem)  : qv_Ok l X yX10_isClifford cX10_isClifford 1 (some .boolean) (d) T M [.int p0] (qv_eI M) (f_X10_isClifford p0) := by
  refine qv_mk (lv := [(0, .int p0)]) (by decide) (Nat.le_of_ble_eq_true rfl) rfl (fun G hG hRm g hr => ?_)
  have g : qv_ok G X cX10_isClifford RX10 1 := g
  unfold f_X10_isClifford
  refine qv_iload_n (pc := 0) g dX10_isClifford_0 rfl rfl ?_
  refine qv_if_eq (pc := 1) (tgt := 24) g dX10_isClifford_1 (by decide) ?_ ?_
  · refine qv_iconst (v := 1) (pc := 24) g dX10_isClifford_24 (by decide) ?_
    refine qv_goto (pc := 25) (tgt := 29) g dX10_isClifford_25 (by decide) ?_
    exact qv_zret (pc := 29) g hr rfl rfl dX10_isClifford_29
  · refine qv_iload_n (pc := 4) g dX10_isClifford_4 rfl rfl ?_
    refine qv_iconst (v := 2) (pc := 5) g dX10_isClifford_5 (by decide) ?_
    refine qv_icmp_eq (pc := 6) (tgt := 24) g dX10_isClifford_6 (by decide) ?_ ?_
    · refine qv_iconst (v := 1) (pc := 24) g dX10_isClifford_24 (by decide) ?_
      refine qv_goto (pc := 25) (tgt := 29) g dX10_isClifford_25 (by decide) ?_
      exact qv_zret (pc := 29) g hr rfl rfl dX10_isClifford_29
    · refine qv_iload_n (pc := 9) g dX10_isClifford_9 rfl rfl ?_
      refine qv_iconst (v := 3) (pc := 10) g dX10_isClifford_10 (by decide) ?_
      refine qv_icmp_eq (pc := 11) (tgt := 24) g dX10_isClifford_11 (by decide) ?_ ?_
      · refine qv_iconst (v := 1) (pc := 24) g dX10_isClifford_24 (by decide) ?_
        refine qv_goto (pc := 25) (tgt := 29) g dX10_isClifford_25 (by decide) ?_
        exact qv_zret (pc := 29) g hr rfl rfl dX10_isClifford_29
      · refine qv_iload_n (pc := 14) g dX10_isClifford_14 rfl rfl ?_
        refine qv_iconst (v := 4) (pc := 15) g dX10_isClifford_15 (by decide) ?_
        refine qv_icmp_eq (pc := 16) (tgt := 24) g dX10_isClifford_16 (by decide) ?_ ?_
        · refine qv_iconst (v := 1) (pc := 24) g dX10_isClifford_24 (by decide) ?_
          refine qv_goto (pc := 25) (tgt := 29) g dX10_isClifford_25 (by decide) ?_
          exact qv_zret (pc := 29) g hr rfl rfl dX10_isClifford_29
        · refine qv_iload_n (pc := 19) g dX10_isClifford_19 rfl rfl ?_
          refine qv_iconst (v := 5) (pc := 20) g dX10_isClifford_20 (by decide) ?_
          refine qv_icmp_ne (pc := 21) (tgt := 28) g dX10_isClifford_21 (by decide) ?_ ?_
          · refine qv_iconst (v := 0) (pc := 28) g dX10_isClifford_28 (by decide) ?_
            exact qv_zret (pc := 29) g hr rfl rfl dX10_isClifford_29
          · refine qv_iconst (v := 1) (pc := 24) g dX10_isClifford_24 (by decide) ?_
            refine qv_goto (pc := 25) (tgt := 29) g dX10_isClifford_25 (by decide) ?_
            exact qv_zret (pc := 29) g hr rfl rfl dX10_isClifford_29

set_option maxHeartbeats 4000000 in
set_option maxRecDepth 100000 in
theorem c_X10_turns (l : Launch) (X : qv_X) (d : Nat) (T : List qv_Ent) (t : Nat) (p1 : Int32) (p2 : Int32) (M : qv_Mem) {nt : Nat} (ht : qv_is (nt + 1) T 10 29 t) : qv_Ok l X yX10_turns cX10_turns 5 none (d + 1) T M [.ref (X.2.2.2 + t), .int p1, .int p2] qv_eV (f_X10_turns T t p1 p2 M) := by
  refine qv_mk (lv := [(0, .ref (X.2.2.2 + t)), (1, .int p1), (2, .int p2)]) (by decide) (Nat.le_of_ble_eq_true rfl) rfl (fun G hG hRm g hr => ?_)
  have g : qv_ok G X cX10_turns RX10 5 := g
  unfold f_X10_turns
  refine qv_iconst (v := 0) (pc := 0) g dX10_turns_0 (by decide) ?_
  refine qv_istore_n (pc := 1) (lv1 := [(3, .int 0), (0, .ref (X.2.2.2 + t)), (1, .int p1), (2, .int p2)]) g dX10_turns_1 rfl (by decide) rfl ?_
  refine qv_join (fun (k2 : qv_Mem → Option qv_Mem) => ∀ (M1 : qv_Mem), qv_V G X 5 (qv_QM G X T qv_eV (0, 0)) T (0, 0) 101 [(0, .ref (X.2.2.2 + t)), (1, .int p1), (2, .int p2)] [] M1 (k2 M1)) (fun M1 => ?_) (fun k2 qk2 => ?_)
  · refine qv_aload_n (pc := 101) g dX10_turns_101 rfl rfl ?_
    have h1 : qv_is _ T 21 340 (qv_rf T t 0) := ht.to 0 (by decide) (by decide) rfl
    refine qv_getr (pc := 102) g fw_RX10_11 ht (by decide) (by decide) rfl dX10_turns_102 ?_
    refine qv_sipush (v := 339) (pc := 105) g dX10_turns_105 (by decide) ?_
    refine qv_aload_n (pc := 108) g dX10_turns_108 rfl rfl ?_
    refine qv_iload_n (pc := 109) g dX10_turns_109 rfl rfl ?_
    refine qv_aI rfl (qv_cv (pc := 110) g (c_X10_eOf (gl G) X d T _ _ M1 ht) (qv_R hRm (by omega) (by decide)) ⟨Nat.zero_le _, Nat.zero_le _⟩ mw_X10_eOf lk_RX10_98 im_X10_eOf se_X10_eOf (by decide) rfl ht pd_X10_eOf rfl (Nat.le_of_ble_eq_true rfl) dX10_turns_110) (fun v3 => ?_)
    refine qv_i2l (pc := 113) g dX10_turns_113 ?_
    refine qv_last (pc := 114) g h1 dX10_turns_114 (fun M4 => ?_)
    refine qv_aload_n (pc := 115) g dX10_turns_115 rfl rfl ?_
    refine qv_bipush (v := 19) (pc := 116) g dX10_turns_116 (by decide) ?_
    refine qv_iload_n (pc := 118) g dX10_turns_118 rfl rfl ?_
    refine qv_aV (qv_cv (pc := 119) g (c_X10_copies (gl G) X d T _ _ _ M4 ht) (qv_R hRm (by omega) (by decide)) ⟨Nat.zero_le _, Nat.zero_le _⟩ mw_X10_copies lk_RX10_83 im_X10_copies se_X10_copies (by decide) rfl ht pd_X10_copies rfl (Nat.le_of_ble_eq_true rfl) dX10_turns_119) (fun M5 => ?_)
    exact qv_vret (pc := 122) g hr rfl dX10_turns_122
  refine qv_lv [1, 2, 3, 0] rfl ?_
  exact qv_L2 (Vh := fun (v6 : Int32) (M7 : qv_Mem) o => qv_V G X 5 (qv_QM G X T qv_eV (0, 0)) T (0, 0) 2 [(0, .ref (X.2.2.2 + t)), (1, .int p1), (2, .int p2), (3, .int v6)] [] M7 o) (fun _ _ => qv_none) (fun r8 qr8 v6 M7 => by
    unfold b_X10_turns_2
    refine qv_iload_n (pc := 2) g dX10_turns_2 rfl rfl ?_
    refine qv_iconst (v := 4) (pc := 3) g dX10_turns_3 (by decide) ?_
    refine qv_icmp_ge (pc := 4) (tgt := 101) g dX10_turns_4 (by decide) ?_ ?_
    · refine qv_lv [0, 1, 2] rfl ?_
      exact qk2 _
    · refine qv_iload_n (pc := 7) g dX10_turns_7 rfl rfl ?_
      refine qv_iconst (v := 1) (pc := 8) g dX10_turns_8 (by decide) ?_
      refine qv_join (fun (k10 : Int32 → Option qv_Mem) => ∀ (v9 : Int32), qv_V G X 5 (qv_QM G X T qv_eV (0, 0)) T (0, 0) 26 [(0, .ref (X.2.2.2 + t)), (1, .int p1), (2, .int p2), (3, .int v6)] [.int v9] M7 (k10 v9)) (fun v9 => ?_) (fun k10 qk10 => ?_)
      · refine qv_istore (pc := 26) (lv1 := [(4, .int v9), (0, .ref (X.2.2.2 + t)), (1, .int p1), (2, .int p2), (3, .int v6)]) g dX10_turns_26 (by decide) rfl ?_
        refine qv_aload_n (pc := 28) g dX10_turns_28 rfl rfl ?_
        refine qv_bipush (v := 19) (pc := 29) g dX10_turns_29 (by decide) ?_
        refine qv_iload_n (pc := 31) g dX10_turns_31 rfl rfl ?_
        refine qv_iconst (v := 0) (pc := 32) g dX10_turns_32 (by decide) ?_
        refine qv_aload_n (pc := 33) g dX10_turns_33 rfl rfl ?_
        refine qv_iload_n (pc := 34) g dX10_turns_34 rfl rfl ?_
        refine qv_iload (pc := 35) g dX10_turns_35 rfl ?_
        refine qv_iconst (v := 0) (pc := 37) g dX10_turns_37 (by decide) ?_
        refine qv_aL rfl (qv_cv (pc := 38) g (c_X10_at (gl G) X d T _ _ _ _ M7 ht) (qv_R hRm (by omega) (by decide)) ⟨Nat.zero_le _, Nat.zero_le _⟩ mw_X10_at lk_RX10_92 im_X10_at se_X10_at (by decide) rfl ht pd_X10_at rfl (Nat.le_of_ble_eq_true rfl) dX10_turns_38) (fun v11 => ?_)
        refine qv_aV (qv_cv (pc := 41) g (c_X10_number (gl G) X d T _ _ _ _ _ M7 ht) (qv_R hRm (by omega) (by decide)) ⟨Nat.zero_le _, Nat.zero_le _⟩ mw_X10_number lk_RX10_76 im_X10_number se_X10_number (by decide) rfl ht pd_X10_number rfl (Nat.le_of_ble_eq_true rfl) dX10_turns_41) (fun M12 => ?_)
        refine qv_aload_n (pc := 44) g dX10_turns_44 rfl rfl ?_
        refine qv_bipush (v := 19) (pc := 45) g dX10_turns_45 (by decide) ?_
        refine qv_iload_n (pc := 47) g dX10_turns_47 rfl rfl ?_
        refine qv_iconst (v := 1) (pc := 48) g dX10_turns_48 (by decide) ?_
        refine qv_aload_n (pc := 49) g dX10_turns_49 rfl rfl ?_
        refine qv_iload_n (pc := 50) g dX10_turns_50 rfl rfl ?_
        refine qv_iload (pc := 51) g dX10_turns_51 rfl ?_
        refine qv_iconst (v := 3) (pc := 53) g dX10_turns_53 (by decide) ?_
        refine qv_aL rfl (qv_cv (pc := 54) g (c_X10_at (gl G) X d T _ _ _ _ M12 ht) (qv_R hRm (by omega) (by decide)) ⟨Nat.zero_le _, Nat.zero_le _⟩ mw_X10_at lk_RX10_92 im_X10_at se_X10_at (by decide) rfl ht pd_X10_at rfl (Nat.le_of_ble_eq_true rfl) dX10_turns_54) (fun v13 => ?_)
        refine qv_lneg (pc := 57) g dX10_turns_57 ?_
        refine qv_aV (qv_cv (pc := 58) g (c_X10_number (gl G) X d T _ _ _ _ _ M12 ht) (qv_R hRm (by omega) (by decide)) ⟨Nat.zero_le _, Nat.zero_le _⟩ mw_X10_number lk_RX10_76 im_X10_number se_X10_number (by decide) rfl ht pd_X10_number rfl (Nat.le_of_ble_eq_true rfl) dX10_turns_58) (fun M14 => ?_)
        refine qv_aload_n (pc := 61) g dX10_turns_61 rfl rfl ?_
        refine qv_bipush (v := 19) (pc := 62) g dX10_turns_62 (by decide) ?_
        refine qv_iload_n (pc := 64) g dX10_turns_64 rfl rfl ?_
        refine qv_iconst (v := 2) (pc := 65) g dX10_turns_65 (by decide) ?_
        refine qv_aload_n (pc := 66) g dX10_turns_66 rfl rfl ?_
        refine qv_iload_n (pc := 67) g dX10_turns_67 rfl rfl ?_
        refine qv_iload (pc := 68) g dX10_turns_68 rfl ?_
        refine qv_iconst (v := 2) (pc := 70) g dX10_turns_70 (by decide) ?_
        refine qv_aL rfl (qv_cv (pc := 71) g (c_X10_at (gl G) X d T _ _ _ _ M14 ht) (qv_R hRm (by omega) (by decide)) ⟨Nat.zero_le _, Nat.zero_le _⟩ mw_X10_at lk_RX10_92 im_X10_at se_X10_at (by decide) rfl ht pd_X10_at rfl (Nat.le_of_ble_eq_true rfl) dX10_turns_71) (fun v15 => ?_)
        refine qv_lneg (pc := 74) g dX10_turns_74 ?_
        refine qv_aV (qv_cv (pc := 75) g (c_X10_number (gl G) X d T _ _ _ _ _ M14 ht) (qv_R hRm (by omega) (by decide)) ⟨Nat.zero_le _, Nat.zero_le _⟩ mw_X10_number lk_RX10_76 im_X10_number se_X10_number (by decide) rfl ht pd_X10_number rfl (Nat.le_of_ble_eq_true rfl) dX10_turns_75) (fun M16 => ?_)
        refine qv_aload_n (pc := 78) g dX10_turns_78 rfl rfl ?_
        refine qv_bipush (v := 19) (pc := 79) g dX10_turns_79 (by decide) ?_
        refine qv_iload_n (pc := 81) g dX10_turns_81 rfl rfl ?_
        refine qv_iconst (v := 3) (pc := 82) g dX10_turns_82 (by decide) ?_
        refine qv_aload_n (pc := 83) g dX10_turns_83 rfl rfl ?_
        refine qv_iload_n (pc := 84) g dX10_turns_84 rfl rfl ?_
        refine qv_iload (pc := 85) g dX10_turns_85 rfl ?_
        refine qv_iconst (v := 1) (pc := 87) g dX10_turns_87 (by decide) ?_
        refine qv_aL rfl (qv_cv (pc := 88) g (c_X10_at (gl G) X d T _ _ _ _ M16 ht) (qv_R hRm (by omega) (by decide)) ⟨Nat.zero_le _, Nat.zero_le _⟩ mw_X10_at lk_RX10_92 im_X10_at se_X10_at (by decide) rfl ht pd_X10_at rfl (Nat.le_of_ble_eq_true rfl) dX10_turns_88) (fun v17 => ?_)
        refine qv_lneg (pc := 91) g dX10_turns_91 ?_
        refine qv_aV (qv_cv (pc := 92) g (c_X10_number (gl G) X d T _ _ _ _ _ M16 ht) (qv_R hRm (by omega) (by decide)) ⟨Nat.zero_le _, Nat.zero_le _⟩ mw_X10_number lk_RX10_76 im_X10_number se_X10_number (by decide) rfl ht pd_X10_number rfl (Nat.le_of_ble_eq_true rfl) dX10_turns_92) (fun M18 => ?_)
        refine qv_iinc (pc := 95) (v := (v6 + 1)) (lv1 := [(3, .int (v6 + 1)), (4, .int v9), (0, .ref (X.2.2.2 + t)), (1, .int p1), (2, .int p2)]) g dX10_turns_95 rfl rfl (by decide) rfl ?_
        refine qv_goto (pc := 98) (tgt := 2) g dX10_turns_98 (by decide) ?_
        refine qv_lv [2, 3, 4, 0] rfl ?_
        exact qr8 _ _
      refine qv_icmp_ne (pc := 9) (tgt := 16) g dX10_turns_9 (by decide) ?_ ?_
      · refine qv_iload_n (pc := 16) g dX10_turns_16 rfl rfl ?_
        refine qv_iconst (v := 2) (pc := 17) g dX10_turns_17 (by decide) ?_
        refine qv_icmp_ne (pc := 18) (tgt := 25) g dX10_turns_18 (by decide) ?_ ?_
        · refine qv_iload_n (pc := 25) g dX10_turns_25 rfl rfl ?_
          exact qk10 _
        · refine qv_iconst (v := 1) (pc := 21) g dX10_turns_21 (by decide) ?_
          refine qv_goto (pc := 22) (tgt := 26) g dX10_turns_22 (by decide) ?_
          exact qk10 _
      · refine qv_iconst (v := 2) (pc := 12) g dX10_turns_12 (by decide) ?_
        refine qv_goto (pc := 13) (tgt := 26) g dX10_turns_13 (by decide) ?_
        exact qk10 _) _ _ _

