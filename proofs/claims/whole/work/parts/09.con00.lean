set_option maxHeartbeats 4000000 in
set_option maxRecDepth 100000 in
theorem c_X7_clearParts (l : Launch) (X : qv_X) (d : Nat) (T : List qv_Ent) (t : Nat) (M : qv_Mem) {nt : Nat} (ht : qv_is (nt + 1) T 7 2 t) : qv_Ok l X yX7_clearParts cX7_clearParts 2 none (d) T M [.ref (X.2.2.2 + t)] qv_eV (f_X7_clearParts T t M) := by
  refine qv_mk (lv := [(0, .ref (X.2.2.2 + t))]) (by decide) (Nat.le_of_ble_eq_true rfl) rfl (fun G hG hRm g hr => ?_)
  have g : qv_ok G X cX7_clearParts RX7 2 := g
  unfold f_X7_clearParts
  refine qv_iconst (v := 0) (pc := 0) g dX7_clearParts_0 (by decide) ?_
  refine qv_istore_n (pc := 1) (lv1 := [(1, .int 0), (0, .ref (X.2.2.2 + t))]) g dX7_clearParts_1 rfl (by decide) rfl ?_
  refine qv_join (fun (k2 : qv_Mem → Option qv_Mem) => ∀ (M1 : qv_Mem), qv_V G X 2 (qv_QM G X T qv_eV (0, 0)) T (0, 0) 21 [] [] M1 (k2 M1)) (fun M1 => ?_) (fun k2 qk2 => ?_)
  · exact qv_vret (pc := 21) g hr rfl dX7_clearParts_21
  refine qv_lv [1, 0] rfl ?_
  exact qv_L2 (Vh := fun (v3 : Int32) (M4 : qv_Mem) o => qv_V G X 2 (qv_QM G X T qv_eV (0, 0)) T (0, 0) 2 [(0, .ref (X.2.2.2 + t)), (1, .int v3)] [] M4 o) (fun _ _ => qv_none) (fun r5 qr5 v3 M4 => by
    unfold b_X7_clearParts_2
    refine qv_iload_n (pc := 2) g dX7_clearParts_2 rfl rfl ?_
    refine qv_bipush (v := 16) (pc := 3) g dX7_clearParts_3 (by decide) ?_
    refine qv_icmp_ge (pc := 5) (tgt := 21) g dX7_clearParts_5 (by decide) ?_ ?_
    · refine qv_lv [] rfl ?_
      exact qk2 _
    · refine qv_aload_n (pc := 8) g dX7_clearParts_8 rfl rfl ?_
      have h1 : qv_is _ T 21 16 (qv_rf T t 0) := ht.to 0 (by decide) (by decide) rfl
      refine qv_getr (pc := 9) g fw_RX7_11 ht (by decide) (by decide) rfl dX7_clearParts_9 ?_
      refine qv_iload_n (pc := 12) g dX7_clearParts_12 rfl rfl ?_
      refine qv_lconst (v := 0) (pc := 13) g dX7_clearParts_13 (by decide) ?_
      refine qv_last (pc := 14) g h1 dX7_clearParts_14 (fun M6 => ?_)
      refine qv_iinc (pc := 15) (v := (v3 + 1)) (lv1 := [(1, .int (v3 + 1)), (0, .ref (X.2.2.2 + t))]) g dX7_clearParts_15 rfl rfl (by decide) rfl ?_
      refine qv_goto (pc := 18) (tgt := 2) g dX7_clearParts_18 (by decide) ?_
      refine qv_lv [1, 0] rfl ?_
      exact qr5 _ _) _ _ _

set_option maxHeartbeats 4000000 in
set_option maxRecDepth 100000 in
theorem c_X7_placeOf (l : Launch) (X : qv_X) (d : Nat) (T : List qv_Ent) (p0 : Int32) (p1 : Int32) (M : qv_Mem)  : qv_Ok l X yX7_placeOf cX7_placeOf 2 (some .int) (d) T M [.int p0, .int p1] (qv_eI M) (f_X7_placeOf p0 p1) := by
  refine qv_mk (lv := [(0, .int p0), (1, .int p1)]) (by decide) (Nat.le_of_ble_eq_true rfl) rfl (fun G hG hRm g hr => ?_)
  have g : qv_ok G X cX7_placeOf RX7 2 := g
  unfold f_X7_placeOf
  refine qv_iload_n (pc := 0) g dX7_placeOf_0 rfl rfl ?_
  refine qv_iconst (v := 2) (pc := 1) g dX7_placeOf_1 (by decide) ?_
  refine qv_imul (pc := 2) g dX7_placeOf_2 ?_
  refine qv_iload_n (pc := 3) g dX7_placeOf_3 rfl rfl ?_
  refine qv_iadd (pc := 4) g dX7_placeOf_4 ?_
  refine qv_iconst (v := 4) (pc := 5) g dX7_placeOf_5 (by decide) ?_
  refine qv_imul (pc := 6) g dX7_placeOf_6 ?_
  exact qv_iret (pc := 7) g hr rfl dX7_placeOf_7

set_option maxHeartbeats 4000000 in
set_option maxRecDepth 100000 in
theorem c_X7_makeUnit (l : Launch) (X : qv_X) (d : Nat) (T : List qv_Ent) (t : Nat) (M : qv_Mem) {nt : Nat} (ht : qv_is (nt + 1) T 7 2 t) : qv_Ok l X yX7_makeUnit cX7_makeUnit 1 none (d + 1) T M [.ref (X.2.2.2 + t)] qv_eV (f_X7_makeUnit T t M) := by
  refine qv_mk (lv := [(0, .ref (X.2.2.2 + t))]) (by decide) (Nat.le_of_ble_eq_true rfl) rfl (fun G hG hRm g hr => ?_)
  have g : qv_ok G X cX7_makeUnit RX7 1 := g
  unfold f_X7_makeUnit
  refine qv_aload_n (pc := 0) g dX7_makeUnit_0 rfl rfl ?_
  refine qv_aV (qv_cv (pc := 1) g (c_X7_clearParts (gl G) X d T _ M ht) (qv_R hRm (by omega) (by decide)) ⟨Nat.zero_le _, Nat.zero_le _⟩ mw_X7_clearParts lk_RX7_22 im_X7_clearParts se_X7_clearParts (by decide) rfl ht pd_X7_clearParts rfl (Nat.le_of_ble_eq_true rfl) dX7_makeUnit_1) (fun M1 => ?_)
  refine qv_aload_n (pc := 4) g dX7_makeUnit_4 rfl rfl ?_
  have h1 : qv_is _ T 21 16 (qv_rf T t 0) := ht.to 0 (by decide) (by decide) rfl
  refine qv_getr (pc := 5) g fw_RX7_11 ht (by decide) (by decide) rfl dX7_makeUnit_5 ?_
  refine qv_iconst (v := 0) (pc := 8) g dX7_makeUnit_8 (by decide) ?_
  refine qv_iconst (v := 0) (pc := 9) g dX7_makeUnit_9 (by decide) ?_
  refine qv_aI rfl (qv_cs (pc := 10) g (c_X7_placeOf (gl G) X d T _ _ M1) (qv_R hRm (by omega) (by decide)) ⟨Nat.zero_le _, Nat.zero_le _⟩ mw_X7_placeOf lk_RX7_25 st_X7_placeOf pd_X7_placeOf rfl (Nat.le_of_ble_eq_true rfl) dX7_makeUnit_10) (fun v2 => ?_)
  refine qv_lconst (v := 1) (pc := 13) g dX7_makeUnit_13 (by decide) ?_
  refine qv_last (pc := 14) g h1 dX7_makeUnit_14 (fun M3 => ?_)
  refine qv_aload_n (pc := 15) g dX7_makeUnit_15 rfl rfl ?_
  refine qv_getr (pc := 16) g fw_RX7_11 ht (by decide) (by decide) rfl dX7_makeUnit_16 ?_
  refine qv_iconst (v := 1) (pc := 19) g dX7_makeUnit_19 (by decide) ?_
  refine qv_iconst (v := 1) (pc := 20) g dX7_makeUnit_20 (by decide) ?_
  refine qv_aI rfl (qv_cs (pc := 21) g (c_X7_placeOf (gl G) X d T _ _ M3) (qv_R hRm (by omega) (by decide)) ⟨Nat.zero_le _, Nat.zero_le _⟩ mw_X7_placeOf lk_RX7_25 st_X7_placeOf pd_X7_placeOf rfl (Nat.le_of_ble_eq_true rfl) dX7_makeUnit_21) (fun v4 => ?_)
  refine qv_lconst (v := 1) (pc := 24) g dX7_makeUnit_24 (by decide) ?_
  refine qv_last (pc := 25) g h1 dX7_makeUnit_25 (fun M5 => ?_)
  refine qv_aload_n (pc := 26) g dX7_makeUnit_26 rfl rfl ?_
  refine qv_iconst (v := 0) (pc := 27) g dX7_makeUnit_27 (by decide) ?_
  refine qv_puti (pc := 28) g pw_RX7_15 ht (by decide) (by decide) rfl dX7_makeUnit_28 (fun M6 => ?_)
  exact qv_vret (pc := 31) g hr rfl dX7_makeUnit_31

set_option maxHeartbeats 4000000 in
set_option maxRecDepth 100000 in
theorem c_X9_isBelow (l : Launch) (X : qv_X) (d : Nat) (T : List qv_Ent) (p0 : Int32) (p1 : Int32) (M : qv_Mem)  : qv_Ok l X yX9_isBelow cX9_isBelow 2 (some .boolean) (d) T M [.int p0, .int p1] (qv_eI M) (f_X9_isBelow p0 p1) := by
  refine qv_mk (lv := [(0, .int p0), (1, .int p1)]) (by decide) (Nat.le_of_ble_eq_true rfl) rfl (fun G hG hRm g hr => ?_)
  have g : qv_ok G X cX9_isBelow RX9 2 := g
  unfold f_X9_isBelow
  refine qv_iload_n (pc := 0) g dX9_isBelow_0 rfl rfl ?_
  refine qv_if_lt (pc := 1) (tgt := 13) g dX9_isBelow_1 (by decide) ?_ ?_
  · refine qv_iconst (v := 0) (pc := 13) g dX9_isBelow_13 (by decide) ?_
    exact qv_zret (pc := 14) g hr rfl rfl dX9_isBelow_14
  · refine qv_iload_n (pc := 4) g dX9_isBelow_4 rfl rfl ?_
    refine qv_iload_n (pc := 5) g dX9_isBelow_5 rfl rfl ?_
    refine qv_icmp_ge (pc := 6) (tgt := 13) g dX9_isBelow_6 (by decide) ?_ ?_
    · refine qv_iconst (v := 0) (pc := 13) g dX9_isBelow_13 (by decide) ?_
      exact qv_zret (pc := 14) g hr rfl rfl dX9_isBelow_14
    · refine qv_iconst (v := 1) (pc := 9) g dX9_isBelow_9 (by decide) ?_
      refine qv_goto (pc := 10) (tgt := 14) g dX9_isBelow_10 (by decide) ?_
      exact qv_zret (pc := 14) g hr rfl rfl dX9_isBelow_14

set_option maxHeartbeats 4000000 in
set_option maxRecDepth 100000 in
theorem c_X9_isRegister (l : Launch) (X : qv_X) (d : Nat) (T : List qv_Ent) (p0 : Int32) (M : qv_Mem)  : qv_Ok l X yX9_isRegister cX9_isRegister 1 (some .boolean) (d + 1) T M [.int p0] (qv_eI M) (f_X9_isRegister p0) := by
  refine qv_mk (lv := [(0, .int p0)]) (by decide) (Nat.le_of_ble_eq_true rfl) rfl (fun G hG hRm g hr => ?_)
  have g : qv_ok G X cX9_isRegister RX9 1 := g
  unfold f_X9_isRegister
  refine qv_iload_n (pc := 0) g dX9_isRegister_0 rfl rfl ?_
  refine qv_iconst (v := 4) (pc := 1) g dX9_isRegister_1 (by decide) ?_
  refine qv_aI rfl (qv_cs (pc := 2) g (c_X9_isBelow (gl G) X d T _ _ M) (qv_R hRm (by omega) (by decide)) ⟨Nat.zero_le _, Nat.zero_le _⟩ mw_X9_isBelow lk_RX9_133 st_X9_isBelow pd_X9_isBelow rfl (Nat.le_of_ble_eq_true rfl) dX9_isRegister_2) (fun v1 => ?_)
  exact qv_zretg (pc := 5) g hr rfl dX9_isRegister_5

set_option maxHeartbeats 4000000 in
set_option maxRecDepth 100000 in
theorem c_X9_one (l : Launch) (X : qv_X) (d : Nat) (T : List qv_Ent) (t : Nat) (p1 : Int32) (M : qv_Mem) {nt : Nat} (ht : qv_is (nt + 4) T 9 14 t) : qv_Ok l X yX9_one cX9_one 3 (some .int) (d + 2) T M [.ref (X.2.2.2 + t), .int p1] qv_eIM (f_X9_one T t p1 M) := by
  refine qv_mk (lv := [(0, .ref (X.2.2.2 + t)), (1, .int p1)]) (by decide) (Nat.le_of_ble_eq_true rfl) rfl (fun G hG hRm g hr => ?_)
  have g : qv_ok G X cX9_one RX9 3 := g
  unfold f_X9_one
  refine qv_iload_n (pc := 0) g dX9_one_0 rfl rfl ?_
  refine qv_aI rfl (qv_cs (pc := 1) g (c_X9_isRegister (gl G) X d T _ M) (qv_R hRm (by omega) (by decide)) ⟨Nat.zero_le _, Nat.zero_le _⟩ mw_X9_isRegister lk_RX9_90 st_X9_isRegister pd_X9_isRegister rfl (Nat.le_of_ble_eq_true rfl) dX9_one_1) (fun v1 => ?_)
  refine qv_if_ne (pc := 4) (tgt := 9) g dX9_one_4 (by decide) ?_ ?_
  · refine qv_aload_n (pc := 9) g dX9_one_9 rfl rfl ?_
    have h1 : qv_is _ T 0 3 (qv_rf T t 0) := ht.to 0 (by decide) (by decide) rfl
    refine qv_getr (pc := 10) g fw_RX9_12 ht (by decide) (by decide) rfl dX9_one_10 ?_
    have h2 : qv_is _ T 37 4 (qv_rf T (qv_rf T t 0) 0) := h1.to 0 (by decide) (by decide) rfl
    refine qv_getr (pc := 13) g fw_RX9_94 h1 (by decide) (by decide) rfl dX9_one_13 ?_
    refine qv_iload_n (pc := 16) g dX9_one_16 rfl rfl ?_
    refine qv_aald (pc := 17) g (by decide) h2 (fun _ _ => ⟨_, rfl⟩) dX9_one_17 (fun z2 => ?_)
    have h3 : qv_is _ T 7 2 (qv_rf T (qv_rf T (qv_rf T t 0) 0) p1.toNatClampNeg) := h2.to _ (by decide) (qv_inb_lt z2) rfl
    refine qv_gets (pc := 18) g fw_RX9_98 h3 (by decide) (by decide) rfl dX9_one_18 (fun v3 => ?_)
    refine qv_istore_n (pc := 21) (lv1 := [(2, .int v3), (0, .ref (X.2.2.2 + t)), (1, .int p1)]) g dX9_one_21 rfl (by decide) rfl ?_
    refine qv_aload_n (pc := 22) g dX9_one_22 rfl rfl ?_
    refine qv_getr (pc := 23) g fw_RX9_12 ht (by decide) (by decide) rfl dX9_one_23 ?_
    refine qv_getr (pc := 26) g fw_RX9_94 h1 (by decide) (by decide) rfl dX9_one_26 ?_
    refine qv_iload_n (pc := 29) g dX9_one_29 rfl rfl ?_
    refine qv_aald (pc := 30) g (by decide) h2 (fun _ _ => ⟨_, rfl⟩) dX9_one_30 (fun z4 => ?_)
    have h4 : qv_is _ T 7 2 (qv_rf T (qv_rf T (qv_rf T t 0) 0) p1.toNatClampNeg) := h2.to _ (by decide) (qv_inb_lt z4) rfl
    refine qv_aV (qv_cv (pc := 31) g (c_X7_makeUnit (gl G) X d T _ M h4) (qv_R hRm (by omega) (by decide)) ⟨Nat.zero_le _, Nat.zero_le _⟩ mw_X7_makeUnit lk_RX9_102 im_X7_makeUnit se_X7_makeUnit (by decide) rfl h4 pd_X7_makeUnit rfl (Nat.le_of_ble_eq_true rfl) dX9_one_31) (fun M5 => ?_)
    refine qv_iload_n (pc := 34) g dX9_one_34 rfl rfl ?_
    exact qv_iret (pc := 35) g hr rfl dX9_one_35
  · refine qv_iconst (v := (-1)) (pc := 7) g dX9_one_7 (by decide) ?_
    exact qv_iret (pc := 8) g hr rfl dX9_one_8

set_option maxHeartbeats 4000000 in
set_option maxRecDepth 100000 in
theorem c_X9_isGate (l : Launch) (X : qv_X) (d : Nat) (T : List qv_Ent) (p0 : Int32) (M : qv_Mem)  : qv_Ok l X yX9_isGate cX9_isGate 1 (some .boolean) (d + 1) T M [.int p0] (qv_eI M) (f_X9_isGate p0) := by
  refine qv_mk (lv := [(0, .int p0)]) (by decide) (Nat.le_of_ble_eq_true rfl) rfl (fun G hG hRm g hr => ?_)
  have g : qv_ok G X cX9_isGate RX9 1 := g
  unfold f_X9_isGate
  refine qv_iload_n (pc := 0) g dX9_isGate_0 rfl rfl ?_
  refine qv_bipush (v := 7) (pc := 1) g dX9_isGate_1 (by decide) ?_
  refine qv_aI rfl (qv_cs (pc := 3) g (c_X9_isBelow (gl G) X d T _ _ M) (qv_R hRm (by omega) (by decide)) ⟨Nat.zero_le _, Nat.zero_le _⟩ mw_X9_isBelow lk_RX9_133 st_X9_isBelow pd_X9_isBelow rfl (Nat.le_of_ble_eq_true rfl) dX9_isGate_3) (fun v1 => ?_)
  exact qv_zretg (pc := 6) g hr rfl dX9_isGate_6

set_option maxHeartbeats 4000000 in
set_option maxRecDepth 100000 in
theorem c_X7_makeCopy (l : Launch) (X : qv_X) (d : Nat) (T : List qv_Ent) (t : Nat) (t1 : Nat) (M : qv_Mem) {nt : Nat} (ht : qv_is (nt + 1) T 7 2 t) {nt1 : Nat} (ht1 : qv_is (nt1 + 1) T 7 2 t1) : qv_Ok l X yX7_makeCopy cX7_makeCopy 2 none (d) T M [.ref (X.2.2.2 + t), .ref (X.2.2.2 + t1)] qv_eV (f_X7_makeCopy T t t1 M) := by
  refine qv_mk (lv := [(0, .ref (X.2.2.2 + t)), (1, .ref (X.2.2.2 + t1))]) (by decide) (Nat.le_of_ble_eq_true rfl) rfl (fun G hG hRm g hr => ?_)
  have g : qv_ok G X cX7_makeCopy RX7 2 := g
  unfold f_X7_makeCopy
  refine qv_aload_n (pc := 0) g dX7_makeCopy_0 rfl rfl ?_
  have h1 : qv_is _ T 21 16 (qv_rf T t1 0) := ht1.to 0 (by decide) (by decide) rfl
  refine qv_getr (pc := 1) g fw_RX7_11 ht1 (by decide) (by decide) rfl dX7_makeCopy_1 ?_
  refine qv_iconst (v := 0) (pc := 4) g dX7_makeCopy_4 (by decide) ?_
  refine qv_aload_n (pc := 5) g dX7_makeCopy_5 rfl rfl ?_
  have h2 : qv_is _ T 21 16 (qv_rf T t 0) := ht.to 0 (by decide) (by decide) rfl
  refine qv_getr (pc := 6) g fw_RX7_11 ht (by decide) (by decide) rfl dX7_makeCopy_6 ?_
  refine qv_iconst (v := 0) (pc := 9) g dX7_makeCopy_9 (by decide) ?_
  refine qv_bipush (v := 16) (pc := 10) g dX7_makeCopy_10 (by decide) ?_
  refine qv_copyL (pc := 12) g lk_RX7_29 nt_copy st_copy ini_sys h1 h2 (Nat.le_of_ble_eq_true rfl) dX7_makeCopy_12 (fun M1 => ?_)
  refine qv_aload_n (pc := 15) g dX7_makeCopy_15 rfl rfl ?_
  refine qv_aload_n (pc := 16) g dX7_makeCopy_16 rfl rfl ?_
  refine qv_gets (pc := 17) g fw_RX7_15 ht1 (by decide) (by decide) rfl dX7_makeCopy_17 (fun v2 => ?_)
  refine qv_puti (pc := 20) g pw_RX7_15 ht (by decide) (by decide) rfl dX7_makeCopy_20 (fun M3 => ?_)
  exact qv_vret (pc := 23) g hr rfl dX7_makeCopy_23

set_option maxHeartbeats 4000000 in
set_option maxRecDepth 100000 in
theorem c_X7_addAndSubtract (l : Launch) (X : qv_X) (d : Nat) (T : List qv_Ent) (t : Nat) (p1 : Int32) (p2 : Int32) (M : qv_Mem) {nt : Nat} (ht : qv_is (nt + 1) T 7 2 t) : qv_Ok l X yX7_addAndSubtract cX7_addAndSubtract 8 none (d) T M [.ref (X.2.2.2 + t), .int p1, .int p2] qv_eV (f_X7_addAndSubtract T t p1 p2 M) := by
  refine qv_mk (lv := [(0, .ref (X.2.2.2 + t)), (1, .int p1), (2, .int p2)]) (by decide) (Nat.le_of_ble_eq_true rfl) rfl (fun G hG hRm g hr => ?_)
  have g : qv_ok G X cX7_addAndSubtract RX7 8 := g
  unfold f_X7_addAndSubtract
  refine qv_iconst (v := 0) (pc := 0) g dX7_addAndSubtract_0 (by decide) ?_
  refine qv_istore_n (pc := 1) (lv1 := [(3, .int 0), (0, .ref (X.2.2.2 + t)), (1, .int p1), (2, .int p2)]) g dX7_addAndSubtract_1 rfl (by decide) rfl ?_
  refine qv_join (fun (k2 : qv_Mem → Option qv_Mem) => ∀ (M1 : qv_Mem), qv_V G X 8 (qv_QM G X T qv_eV (0, 0)) T (0, 0) 59 [] [] M1 (k2 M1)) (fun M1 => ?_) (fun k2 qk2 => ?_)
  · exact qv_vret (pc := 59) g hr rfl dX7_addAndSubtract_59
  refine qv_lv [1, 2, 3, 0] rfl ?_
  exact qv_L2 (Vh := fun (v3 : Int32) (M4 : qv_Mem) o => qv_V G X 8 (qv_QM G X T qv_eV (0, 0)) T (0, 0) 2 [(0, .ref (X.2.2.2 + t)), (1, .int p1), (2, .int p2), (3, .int v3)] [] M4 o) (fun _ _ => qv_none) (fun r5 qr5 v3 M4 => by
    unfold b_X7_addAndSubtract_2
    refine qv_iload_n (pc := 2) g dX7_addAndSubtract_2 rfl rfl ?_
    refine qv_iconst (v := 4) (pc := 3) g dX7_addAndSubtract_3 (by decide) ?_
    refine qv_icmp_ge (pc := 4) (tgt := 59) g dX7_addAndSubtract_4 (by decide) ?_ ?_
    · refine qv_lv [] rfl ?_
      exact qk2 _
    · refine qv_aload_n (pc := 7) g dX7_addAndSubtract_7 rfl rfl ?_
      have h1 : qv_is _ T 21 16 (qv_rf T t 0) := ht.to 0 (by decide) (by decide) rfl
      refine qv_getr (pc := 8) g fw_RX7_11 ht (by decide) (by decide) rfl dX7_addAndSubtract_8 ?_
      refine qv_iload_n (pc := 11) g dX7_addAndSubtract_11 rfl rfl ?_
      refine qv_iload_n (pc := 12) g dX7_addAndSubtract_12 rfl rfl ?_
      refine qv_iadd (pc := 13) g dX7_addAndSubtract_13 ?_
      refine qv_lald (pc := 14) g h1 dX7_addAndSubtract_14 (fun v6 => ?_)
      refine qv_lstore (pc := 15) (lv1 := [(4, .long v6), (0, .ref (X.2.2.2 + t)), (1, .int p1), (2, .int p2), (3, .int v3)]) g dX7_addAndSubtract_15 (by decide) rfl ?_
      refine qv_aload_n (pc := 17) g dX7_addAndSubtract_17 rfl rfl ?_
      refine qv_getr (pc := 18) g fw_RX7_11 ht (by decide) (by decide) rfl dX7_addAndSubtract_18 ?_
      refine qv_iload_n (pc := 21) g dX7_addAndSubtract_21 rfl rfl ?_
      refine qv_iload_n (pc := 22) g dX7_addAndSubtract_22 rfl rfl ?_
      refine qv_iadd (pc := 23) g dX7_addAndSubtract_23 ?_
      refine qv_lald (pc := 24) g h1 dX7_addAndSubtract_24 (fun v7 => ?_)
      refine qv_lstore (pc := 25) (lv1 := [(6, .long v7), (4, .long v6), (0, .ref (X.2.2.2 + t)), (1, .int p1), (2, .int p2), (3, .int v3)]) g dX7_addAndSubtract_25 (by decide) rfl ?_
      refine qv_aload_n (pc := 27) g dX7_addAndSubtract_27 rfl rfl ?_
      refine qv_getr (pc := 28) g fw_RX7_11 ht (by decide) (by decide) rfl dX7_addAndSubtract_28 ?_
      refine qv_iload_n (pc := 31) g dX7_addAndSubtract_31 rfl rfl ?_
      refine qv_iload_n (pc := 32) g dX7_addAndSubtract_32 rfl rfl ?_
      refine qv_iadd (pc := 33) g dX7_addAndSubtract_33 ?_
      refine qv_lload (pc := 34) g dX7_addAndSubtract_34 rfl ?_
      refine qv_lload (pc := 36) g dX7_addAndSubtract_36 rfl ?_
      refine qv_ladd (pc := 38) g dX7_addAndSubtract_38 ?_
      refine qv_last (pc := 39) g h1 dX7_addAndSubtract_39 (fun M8 => ?_)
      refine qv_aload_n (pc := 40) g dX7_addAndSubtract_40 rfl rfl ?_
      refine qv_getr (pc := 41) g fw_RX7_11 ht (by decide) (by decide) rfl dX7_addAndSubtract_41 ?_
      refine qv_iload_n (pc := 44) g dX7_addAndSubtract_44 rfl rfl ?_
      refine qv_iload_n (pc := 45) g dX7_addAndSubtract_45 rfl rfl ?_
      refine qv_iadd (pc := 46) g dX7_addAndSubtract_46 ?_
      refine qv_lload (pc := 47) g dX7_addAndSubtract_47 rfl ?_
      refine qv_lload (pc := 49) g dX7_addAndSubtract_49 rfl ?_
      refine qv_lsub (pc := 51) g dX7_addAndSubtract_51 ?_
      refine qv_last (pc := 52) g h1 dX7_addAndSubtract_52 (fun M9 => ?_)
      refine qv_iinc (pc := 53) (v := (v3 + 1)) (lv1 := [(3, .int (v3 + 1)), (6, .long v7), (4, .long v6), (0, .ref (X.2.2.2 + t)), (1, .int p1), (2, .int p2)]) g dX7_addAndSubtract_53 rfl rfl (by decide) rfl ?_
      refine qv_goto (pc := 56) (tgt := 2) g dX7_addAndSubtract_56 (by decide) ?_
      refine qv_lv [3, 4, 5, 0] rfl ?_
      exact qr5 _ _) _ _ _

set_option maxHeartbeats 4000000 in
set_option maxRecDepth 100000 in
theorem c_X7_rotate (l : Launch) (X : qv_X) (d : Nat) (T : List qv_Ent) (t : Nat) (p1 : Int32) (p2 : Int32) (M : qv_Mem) {nt : Nat} (ht : qv_is (nt + 1) T 7 2 t) : qv_Ok l X yX7_rotate cX7_rotate 6 none (d) T M [.ref (X.2.2.2 + t), .int p1, .int p2] qv_eV (f_X7_rotate T t p1 p2 M) := by
  refine qv_mk (lv := [(0, .ref (X.2.2.2 + t)), (1, .int p1), (2, .int p2)]) (by decide) (Nat.le_of_ble_eq_true rfl) rfl (fun G hG hRm g hr => ?_)
  have g : qv_ok G X cX7_rotate RX7 6 := g
  unfold f_X7_rotate
  refine qv_iconst (v := 0) (pc := 0) g dX7_rotate_0 (by decide) ?_
  refine qv_istore_n (pc := 1) (lv1 := [(3, .int 0), (0, .ref (X.2.2.2 + t)), (1, .int p1), (2, .int p2)]) g dX7_rotate_1 rfl (by decide) rfl ?_
  refine qv_join (fun (k2 : qv_Mem → Option qv_Mem) => ∀ (M1 : qv_Mem), qv_V G X 6 (qv_QM G X T qv_eV (0, 0)) T (0, 0) 78 [] [] M1 (k2 M1)) (fun M1 => ?_) (fun k2 qk2 => ?_)
  · exact qv_vret (pc := 78) g hr rfl dX7_rotate_78
  refine qv_lv [1, 2, 3, 0] rfl ?_
  exact qv_L2 (Vh := fun (v3 : Int32) (M4 : qv_Mem) o => qv_V G X 6 (qv_QM G X T qv_eV (0, 0)) T (0, 0) 2 [(0, .ref (X.2.2.2 + t)), (1, .int p1), (2, .int p2), (3, .int v3)] [] M4 o) (fun _ _ => qv_none) (fun r5 qr5 v3 M4 => by
    unfold b_X7_rotate_2
    refine qv_iload_n (pc := 2) g dX7_rotate_2 rfl rfl ?_
    refine qv_iload_n (pc := 3) g dX7_rotate_3 rfl rfl ?_
    refine qv_icmp_ge (pc := 4) (tgt := 78) g dX7_rotate_4 (by decide) ?_ ?_
    · refine qv_lv [] rfl ?_
      exact qk2 _
    · refine qv_aload_n (pc := 7) g dX7_rotate_7 rfl rfl ?_
      have h1 : qv_is _ T 21 16 (qv_rf T t 0) := ht.to 0 (by decide) (by decide) rfl
      refine qv_getr (pc := 8) g fw_RX7_11 ht (by decide) (by decide) rfl dX7_rotate_8 ?_
      refine qv_iload_n (pc := 11) g dX7_rotate_11 rfl rfl ?_
      refine qv_iconst (v := 3) (pc := 12) g dX7_rotate_12 (by decide) ?_
      refine qv_iadd (pc := 13) g dX7_rotate_13 ?_
      refine qv_lald (pc := 14) g h1 dX7_rotate_14 (fun v6 => ?_)
      refine qv_lstore (pc := 15) (lv1 := [(4, .long v6), (0, .ref (X.2.2.2 + t)), (1, .int p1), (2, .int p2), (3, .int v3)]) g dX7_rotate_15 (by decide) rfl ?_
      refine qv_aload_n (pc := 17) g dX7_rotate_17 rfl rfl ?_
      refine qv_getr (pc := 18) g fw_RX7_11 ht (by decide) (by decide) rfl dX7_rotate_18 ?_
      refine qv_iload_n (pc := 21) g dX7_rotate_21 rfl rfl ?_
      refine qv_iconst (v := 3) (pc := 22) g dX7_rotate_22 (by decide) ?_
      refine qv_iadd (pc := 23) g dX7_rotate_23 ?_
      refine qv_aload_n (pc := 24) g dX7_rotate_24 rfl rfl ?_
      refine qv_getr (pc := 25) g fw_RX7_11 ht (by decide) (by decide) rfl dX7_rotate_25 ?_
      refine qv_iload_n (pc := 28) g dX7_rotate_28 rfl rfl ?_
      refine qv_iconst (v := 2) (pc := 29) g dX7_rotate_29 (by decide) ?_
      refine qv_iadd (pc := 30) g dX7_rotate_30 ?_
      refine qv_lald (pc := 31) g h1 dX7_rotate_31 (fun v7 => ?_)
      refine qv_last (pc := 32) g h1 dX7_rotate_32 (fun M8 => ?_)
      refine qv_aload_n (pc := 33) g dX7_rotate_33 rfl rfl ?_
      refine qv_getr (pc := 34) g fw_RX7_11 ht (by decide) (by decide) rfl dX7_rotate_34 ?_
      refine qv_iload_n (pc := 37) g dX7_rotate_37 rfl rfl ?_
      refine qv_iconst (v := 2) (pc := 38) g dX7_rotate_38 (by decide) ?_
      refine qv_iadd (pc := 39) g dX7_rotate_39 ?_
      refine qv_aload_n (pc := 40) g dX7_rotate_40 rfl rfl ?_
      refine qv_getr (pc := 41) g fw_RX7_11 ht (by decide) (by decide) rfl dX7_rotate_41 ?_
      refine qv_iload_n (pc := 44) g dX7_rotate_44 rfl rfl ?_
      refine qv_iconst (v := 1) (pc := 45) g dX7_rotate_45 (by decide) ?_
      refine qv_iadd (pc := 46) g dX7_rotate_46 ?_
      refine qv_lald (pc := 47) g h1 dX7_rotate_47 (fun v9 => ?_)
      refine qv_last (pc := 48) g h1 dX7_rotate_48 (fun M10 => ?_)
      refine qv_aload_n (pc := 49) g dX7_rotate_49 rfl rfl ?_
      refine qv_getr (pc := 50) g fw_RX7_11 ht (by decide) (by decide) rfl dX7_rotate_50 ?_
      refine qv_iload_n (pc := 53) g dX7_rotate_53 rfl rfl ?_
      refine qv_iconst (v := 1) (pc := 54) g dX7_rotate_54 (by decide) ?_
      refine qv_iadd (pc := 55) g dX7_rotate_55 ?_
      refine qv_aload_n (pc := 56) g dX7_rotate_56 rfl rfl ?_
      refine qv_getr (pc := 57) g fw_RX7_11 ht (by decide) (by decide) rfl dX7_rotate_57 ?_
      refine qv_iload_n (pc := 60) g dX7_rotate_60 rfl rfl ?_
      refine qv_lald (pc := 61) g h1 dX7_rotate_61 (fun v11 => ?_)
      refine qv_last (pc := 62) g h1 dX7_rotate_62 (fun M12 => ?_)
      refine qv_aload_n (pc := 63) g dX7_rotate_63 rfl rfl ?_
      refine qv_getr (pc := 64) g fw_RX7_11 ht (by decide) (by decide) rfl dX7_rotate_64 ?_
      refine qv_iload_n (pc := 67) g dX7_rotate_67 rfl rfl ?_
      refine qv_lload (pc := 68) g dX7_rotate_68 rfl ?_
      refine qv_lneg (pc := 70) g dX7_rotate_70 ?_
      refine qv_last (pc := 71) g h1 dX7_rotate_71 (fun M13 => ?_)
      refine qv_iinc (pc := 72) (v := (v3 + 1)) (lv1 := [(3, .int (v3 + 1)), (4, .long v6), (0, .ref (X.2.2.2 + t)), (1, .int p1), (2, .int p2)]) g dX7_rotate_72 rfl rfl (by decide) rfl ?_
      refine qv_goto (pc := 75) (tgt := 2) g dX7_rotate_75 (by decide) ?_
      refine qv_lv [2, 3, 4, 0] rfl ?_
      exact qr5 _ _) _ _ _

set_option maxHeartbeats 4000000 in
set_option maxRecDepth 100000 in
theorem c_X7_exchange (l : Launch) (X : qv_X) (d : Nat) (T : List qv_Ent) (t : Nat) (p1 : Int32) (p2 : Int32) (M : qv_Mem) {nt : Nat} (ht : qv_is (nt + 1) T 7 2 t) : qv_Ok l X yX7_exchange cX7_exchange 6 none (d) T M [.ref (X.2.2.2 + t), .int p1, .int p2] qv_eV (f_X7_exchange T t p1 p2 M) := by
  refine qv_mk (lv := [(0, .ref (X.2.2.2 + t)), (1, .int p1), (2, .int p2)]) (by decide) (Nat.le_of_ble_eq_true rfl) rfl (fun G hG hRm g hr => ?_)
  have g : qv_ok G X cX7_exchange RX7 6 := g
  unfold f_X7_exchange
  refine qv_iconst (v := 0) (pc := 0) g dX7_exchange_0 (by decide) ?_
  refine qv_istore_n (pc := 1) (lv1 := [(3, .int 0), (0, .ref (X.2.2.2 + t)), (1, .int p1), (2, .int p2)]) g dX7_exchange_1 rfl (by decide) rfl ?_
  refine qv_join (fun (k2 : qv_Mem → Option qv_Mem) => ∀ (M1 : qv_Mem), qv_V G X 6 (qv_QM G X T qv_eV (0, 0)) T (0, 0) 49 [] [] M1 (k2 M1)) (fun M1 => ?_) (fun k2 qk2 => ?_)
  · exact qv_vret (pc := 49) g hr rfl dX7_exchange_49
  refine qv_lv [1, 2, 3, 0] rfl ?_
  exact qv_L2 (Vh := fun (v3 : Int32) (M4 : qv_Mem) o => qv_V G X 6 (qv_QM G X T qv_eV (0, 0)) T (0, 0) 2 [(0, .ref (X.2.2.2 + t)), (1, .int p1), (2, .int p2), (3, .int v3)] [] M4 o) (fun _ _ => qv_none) (fun r5 qr5 v3 M4 => by
    unfold b_X7_exchange_2
    refine qv_iload_n (pc := 2) g dX7_exchange_2 rfl rfl ?_
    refine qv_iconst (v := 4) (pc := 3) g dX7_exchange_3 (by decide) ?_
    refine qv_icmp_ge (pc := 4) (tgt := 49) g dX7_exchange_4 (by decide) ?_ ?_
    · refine qv_lv [] rfl ?_
      exact qk2 _
    · refine qv_aload_n (pc := 7) g dX7_exchange_7 rfl rfl ?_
      have h1 : qv_is _ T 21 16 (qv_rf T t 0) := ht.to 0 (by decide) (by decide) rfl
      refine qv_getr (pc := 8) g fw_RX7_11 ht (by decide) (by decide) rfl dX7_exchange_8 ?_
      refine qv_iload_n (pc := 11) g dX7_exchange_11 rfl rfl ?_
      refine qv_iload_n (pc := 12) g dX7_exchange_12 rfl rfl ?_
      refine qv_iadd (pc := 13) g dX7_exchange_13 ?_
      refine qv_lald (pc := 14) g h1 dX7_exchange_14 (fun v6 => ?_)
      refine qv_lstore (pc := 15) (lv1 := [(4, .long v6), (0, .ref (X.2.2.2 + t)), (1, .int p1), (2, .int p2), (3, .int v3)]) g dX7_exchange_15 (by decide) rfl ?_
      refine qv_aload_n (pc := 17) g dX7_exchange_17 rfl rfl ?_
      refine qv_getr (pc := 18) g fw_RX7_11 ht (by decide) (by decide) rfl dX7_exchange_18 ?_
      refine qv_iload_n (pc := 21) g dX7_exchange_21 rfl rfl ?_
      refine qv_iload_n (pc := 22) g dX7_exchange_22 rfl rfl ?_
      refine qv_iadd (pc := 23) g dX7_exchange_23 ?_
      refine qv_aload_n (pc := 24) g dX7_exchange_24 rfl rfl ?_
      refine qv_getr (pc := 25) g fw_RX7_11 ht (by decide) (by decide) rfl dX7_exchange_25 ?_
      refine qv_iload_n (pc := 28) g dX7_exchange_28 rfl rfl ?_
      refine qv_iload_n (pc := 29) g dX7_exchange_29 rfl rfl ?_
      refine qv_iadd (pc := 30) g dX7_exchange_30 ?_
      refine qv_lald (pc := 31) g h1 dX7_exchange_31 (fun v7 => ?_)
      refine qv_last (pc := 32) g h1 dX7_exchange_32 (fun M8 => ?_)
      refine qv_aload_n (pc := 33) g dX7_exchange_33 rfl rfl ?_
      refine qv_getr (pc := 34) g fw_RX7_11 ht (by decide) (by decide) rfl dX7_exchange_34 ?_
      refine qv_iload_n (pc := 37) g dX7_exchange_37 rfl rfl ?_
      refine qv_iload_n (pc := 38) g dX7_exchange_38 rfl rfl ?_
      refine qv_iadd (pc := 39) g dX7_exchange_39 ?_
      refine qv_lload (pc := 40) g dX7_exchange_40 rfl ?_
      refine qv_last (pc := 42) g h1 dX7_exchange_42 (fun M9 => ?_)
      refine qv_iinc (pc := 43) (v := (v3 + 1)) (lv1 := [(3, .int (v3 + 1)), (4, .long v6), (0, .ref (X.2.2.2 + t)), (1, .int p1), (2, .int p2)]) g dX7_exchange_43 rfl rfl (by decide) rfl ?_
      refine qv_goto (pc := 46) (tgt := 2) g dX7_exchange_46 (by decide) ?_
      refine qv_lv [2, 3, 4, 0] rfl ?_
      exact qr5 _ _) _ _ _

set_option maxHeartbeats 4000000 in
set_option maxRecDepth 100000 in
theorem c_X7_applyToPair (l : Launch) (X : qv_X) (d : Nat) (T : List qv_Ent) (t : Nat) (p1 : Int32) (p2 : Int32) (p3 : Int32) (M : qv_Mem) {nt : Nat} (ht : qv_is (nt + 1) T 7 2 t) : qv_Ok l X yX7_applyToPair cX7_applyToPair 4 none (d + 1) T M [.ref (X.2.2.2 + t), .int p1, .int p2, .int p3] qv_eV (f_X7_applyToPair T t p1 p2 p3 M) := by
  refine qv_mk (lv := [(0, .ref (X.2.2.2 + t)), (1, .int p1), (2, .int p2), (3, .int p3)]) (by decide) (Nat.le_of_ble_eq_true rfl) rfl (fun G hG hRm g hr => ?_)
  have g : qv_ok G X cX7_applyToPair RX7 4 := g
  unfold f_X7_applyToPair
  refine qv_iload_n (pc := 0) g dX7_applyToPair_0 rfl rfl ?_
  refine qv_ite _ (fun e2 => ?_) (fun n3 => ?_)
  · refine qv_tabI (pc := 1) (tgt := 44) g dX7_applyToPair_1 (by rw [e2]; decide) (by rw [e2]; decide) (by rw [e2]; rfl) (by decide) ?_
    refine qv_aload_n (pc := 44) g dX7_applyToPair_44 rfl rfl ?_
    refine qv_iload_n (pc := 45) g dX7_applyToPair_45 rfl rfl ?_
    refine qv_iload_n (pc := 46) g dX7_applyToPair_46 rfl rfl ?_
    refine qv_aV (qv_cv (pc := 47) g (c_X7_addAndSubtract (gl G) X d T _ _ _ M ht) (qv_R hRm (by omega) (by decide)) ⟨Nat.zero_le _, Nat.zero_le _⟩ mw_X7_addAndSubtract lk_RX7_67 im_X7_addAndSubtract se_X7_addAndSubtract (by decide) rfl ht pd_X7_addAndSubtract rfl (Nat.le_of_ble_eq_true rfl) dX7_applyToPair_47) (fun M1 => ?_)
    refine qv_goto (pc := 50) (tgt := 114) g dX7_applyToPair_50 (by decide) ?_
    exact qv_vret (pc := 114) g hr rfl dX7_applyToPair_114
  refine qv_ite _ (fun e5 => ?_) (fun n6 => ?_)
  · refine qv_tabI (pc := 1) (tgt := 53) g dX7_applyToPair_1 (by rw [e5]; decide) (by rw [e5]; decide) (by rw [e5]; rfl) (by decide) ?_
    refine qv_aload_n (pc := 53) g dX7_applyToPair_53 rfl rfl ?_
    refine qv_iload_n (pc := 54) g dX7_applyToPair_54 rfl rfl ?_
    refine qv_iconst (v := 1) (pc := 55) g dX7_applyToPair_55 (by decide) ?_
    refine qv_aV (qv_cv (pc := 56) g (c_X7_rotate (gl G) X d T _ _ _ M ht) (qv_R hRm (by omega) (by decide)) ⟨Nat.zero_le _, Nat.zero_le _⟩ mw_X7_rotate lk_RX7_71 im_X7_rotate se_X7_rotate (by decide) rfl ht pd_X7_rotate rfl (Nat.le_of_ble_eq_true rfl) dX7_applyToPair_56) (fun M4 => ?_)
    refine qv_goto (pc := 59) (tgt := 114) g dX7_applyToPair_59 (by decide) ?_
    exact qv_vret (pc := 114) g hr rfl dX7_applyToPair_114
  refine qv_ite _ (fun e8 => ?_) (fun n9 => ?_)
  · refine qv_tabI (pc := 1) (tgt := 62) g dX7_applyToPair_1 (by rw [e8]; decide) (by rw [e8]; decide) (by rw [e8]; rfl) (by decide) ?_
    refine qv_aload_n (pc := 62) g dX7_applyToPair_62 rfl rfl ?_
    refine qv_iload_n (pc := 63) g dX7_applyToPair_63 rfl rfl ?_
    refine qv_iconst (v := 2) (pc := 64) g dX7_applyToPair_64 (by decide) ?_
    refine qv_aV (qv_cv (pc := 65) g (c_X7_rotate (gl G) X d T _ _ _ M ht) (qv_R hRm (by omega) (by decide)) ⟨Nat.zero_le _, Nat.zero_le _⟩ mw_X7_rotate lk_RX7_71 im_X7_rotate se_X7_rotate (by decide) rfl ht pd_X7_rotate rfl (Nat.le_of_ble_eq_true rfl) dX7_applyToPair_65) (fun M7 => ?_)
    refine qv_goto (pc := 68) (tgt := 114) g dX7_applyToPair_68 (by decide) ?_
    exact qv_vret (pc := 114) g hr rfl dX7_applyToPair_114
  refine qv_ite _ (fun e11 => ?_) (fun n12 => ?_)
  · refine qv_tabI (pc := 1) (tgt := 71) g dX7_applyToPair_1 (by rw [e11]; decide) (by rw [e11]; decide) (by rw [e11]; rfl) (by decide) ?_
    refine qv_aload_n (pc := 71) g dX7_applyToPair_71 rfl rfl ?_
    refine qv_iload_n (pc := 72) g dX7_applyToPair_72 rfl rfl ?_
    refine qv_iload_n (pc := 73) g dX7_applyToPair_73 rfl rfl ?_
    refine qv_aV (qv_cv (pc := 74) g (c_X7_exchange (gl G) X d T _ _ _ M ht) (qv_R hRm (by omega) (by decide)) ⟨Nat.zero_le _, Nat.zero_le _⟩ mw_X7_exchange lk_RX7_74 im_X7_exchange se_X7_exchange (by decide) rfl ht pd_X7_exchange rfl (Nat.le_of_ble_eq_true rfl) dX7_applyToPair_74) (fun M10 => ?_)
    refine qv_goto (pc := 77) (tgt := 114) g dX7_applyToPair_77 (by decide) ?_
    exact qv_vret (pc := 114) g hr rfl dX7_applyToPair_114
  refine qv_ite _ (fun e14 => ?_) (fun n15 => ?_)
  · refine qv_tabI (pc := 1) (tgt := 80) g dX7_applyToPair_1 (by rw [e14]; decide) (by rw [e14]; decide) (by rw [e14]; rfl) (by decide) ?_
    refine qv_aload_n (pc := 80) g dX7_applyToPair_80 rfl rfl ?_
    refine qv_iload_n (pc := 81) g dX7_applyToPair_81 rfl rfl ?_
    refine qv_iconst (v := 4) (pc := 82) g dX7_applyToPair_82 (by decide) ?_
    refine qv_aV (qv_cv (pc := 83) g (c_X7_rotate (gl G) X d T _ _ _ M ht) (qv_R hRm (by omega) (by decide)) ⟨Nat.zero_le _, Nat.zero_le _⟩ mw_X7_rotate lk_RX7_71 im_X7_rotate se_X7_rotate (by decide) rfl ht pd_X7_rotate rfl (Nat.le_of_ble_eq_true rfl) dX7_applyToPair_83) (fun M13 => ?_)
    refine qv_goto (pc := 86) (tgt := 114) g dX7_applyToPair_86 (by decide) ?_
    exact qv_vret (pc := 114) g hr rfl dX7_applyToPair_114
  refine qv_ite _ (fun e18 => ?_) (fun n19 => ?_)
  · refine qv_tabI (pc := 1) (tgt := 89) g dX7_applyToPair_1 (by rw [e18]; decide) (by rw [e18]; decide) (by rw [e18]; rfl) (by decide) ?_
    refine qv_aload_n (pc := 89) g dX7_applyToPair_89 rfl rfl ?_
    refine qv_iload_n (pc := 90) g dX7_applyToPair_90 rfl rfl ?_
    refine qv_iconst (v := 1) (pc := 91) g dX7_applyToPair_91 (by decide) ?_
    refine qv_aV (qv_cv (pc := 92) g (c_X7_rotate (gl G) X d T _ _ _ M ht) (qv_R hRm (by omega) (by decide)) ⟨Nat.zero_le _, Nat.zero_le _⟩ mw_X7_rotate lk_RX7_71 im_X7_rotate se_X7_rotate (by decide) rfl ht pd_X7_rotate rfl (Nat.le_of_ble_eq_true rfl) dX7_applyToPair_92) (fun M16 => ?_)
    refine qv_aload_n (pc := 95) g dX7_applyToPair_95 rfl rfl ?_
    refine qv_iload_n (pc := 96) g dX7_applyToPair_96 rfl rfl ?_
    refine qv_iconst (v := 1) (pc := 97) g dX7_applyToPair_97 (by decide) ?_
    refine qv_aV (qv_cv (pc := 98) g (c_X7_rotate (gl G) X d T _ _ _ M16 ht) (qv_R hRm (by omega) (by decide)) ⟨Nat.zero_le _, Nat.zero_le _⟩ mw_X7_rotate lk_RX7_71 im_X7_rotate se_X7_rotate (by decide) rfl ht pd_X7_rotate rfl (Nat.le_of_ble_eq_true rfl) dX7_applyToPair_98) (fun M17 => ?_)
    refine qv_goto (pc := 101) (tgt := 114) g dX7_applyToPair_101 (by decide) ?_
    exact qv_vret (pc := 114) g hr rfl dX7_applyToPair_114
  refine qv_ite _ (fun e21 => ?_) (fun n22 => ?_)
  · refine qv_tabI (pc := 1) (tgt := 104) g dX7_applyToPair_1 (by rw [e21]; decide) (by rw [e21]; decide) (by rw [e21]; rfl) (by decide) ?_
    refine qv_aload_n (pc := 104) g dX7_applyToPair_104 rfl rfl ?_
    refine qv_iload_n (pc := 105) g dX7_applyToPair_105 rfl rfl ?_
    refine qv_bipush (v := 7) (pc := 106) g dX7_applyToPair_106 (by decide) ?_
    refine qv_aV (qv_cv (pc := 108) g (c_X7_rotate (gl G) X d T _ _ _ M ht) (qv_R hRm (by omega) (by decide)) ⟨Nat.zero_le _, Nat.zero_le _⟩ mw_X7_rotate lk_RX7_71 im_X7_rotate se_X7_rotate (by decide) rfl ht pd_X7_rotate rfl (Nat.le_of_ble_eq_true rfl) dX7_applyToPair_108) (fun M20 => ?_)
    refine qv_goto (pc := 111) (tgt := 114) g dX7_applyToPair_111 (by decide) ?_
    exact qv_vret (pc := 114) g hr rfl dX7_applyToPair_114
  refine qv_tabD (pc := 1) (tgt := 114) (cl := [0, 1, 2, 3, 4, 5, 6]) (n := 7) g dX7_applyToPair_1 (by decide) (by decide) (by simp [n3, n6, n9, n12, n15, n19, n22]) (by decide) ?_
  exact qv_vret (pc := 114) g hr rfl dX7_applyToPair_114

set_option maxHeartbeats 4000000 in
set_option maxRecDepth 100000 in
theorem c_X7_isMultipleOfR (l : Launch) (X : qv_X) (d : Nat) (T : List qv_Ent) (t : Nat) (M : qv_Mem) {nt : Nat} (ht : qv_is (nt + 1) T 7 2 t) : qv_Ok l X yX7_isMultipleOfR cX7_isMultipleOfR 3 (some .boolean) (d) T M [.ref (X.2.2.2 + t)] (qv_eI M) (f_X7_isMultipleOfR T t M) := by
  refine qv_mk (lv := [(0, .ref (X.2.2.2 + t))]) (by decide) (Nat.le_of_ble_eq_true rfl) rfl (fun G hG hRm g hr => ?_)
  have g : qv_ok G X cX7_isMultipleOfR RX7 3 := g
  unfold f_X7_isMultipleOfR
  refine qv_iconst (v := 0) (pc := 0) g dX7_isMultipleOfR_0 (by decide) ?_
  refine qv_istore_n (pc := 1) (lv1 := [(1, .int 0), (0, .ref (X.2.2.2 + t))]) g dX7_isMultipleOfR_1 rfl (by decide) rfl ?_
  refine qv_join (fun (k1 : Unit → Option Int32) => ∀ (_ : Unit), qv_V G X 3 (qv_QM G X T (qv_eI M) (0, 0)) T (0, 0) 72 [] [] M (k1 ())) (fun _ => ?_) (fun k1 qk1 => ?_)
  · refine qv_iconst (v := 1) (pc := 72) g dX7_isMultipleOfR_72 (by decide) ?_
    exact qv_zret (pc := 73) g hr rfl rfl dX7_isMultipleOfR_73
  refine qv_lv [1, 0] rfl ?_
  exact qv_L1 (Vh := fun (v2 : Int32) o => qv_V G X 3 (qv_QM G X T (qv_eI M) (0, 0)) T (0, 0) 2 [(0, .ref (X.2.2.2 + t)), (1, .int v2)] [] M o) (fun _ => qv_none) (fun r3 qr3 v2 => by
    unfold b_X7_isMultipleOfR_2
    refine qv_iload_n (pc := 2) g dX7_isMultipleOfR_2 rfl rfl ?_
    refine qv_bipush (v := 16) (pc := 3) g dX7_isMultipleOfR_3 (by decide) ?_
    refine qv_icmp_ge (pc := 5) (tgt := 72) g dX7_isMultipleOfR_5 (by decide) ?_ ?_
    · refine qv_lv [] rfl ?_
      exact qk1 ()
    · refine qv_aload_n (pc := 8) g dX7_isMultipleOfR_8 rfl rfl ?_
      have h1 : qv_is _ T 21 16 (qv_rf T t 0) := ht.to 0 (by decide) (by decide) rfl
      refine qv_getr (pc := 9) g fw_RX7_11 ht (by decide) (by decide) rfl dX7_isMultipleOfR_9 ?_
      refine qv_iload_n (pc := 12) g dX7_isMultipleOfR_12 rfl rfl ?_
      refine qv_lald (pc := 13) g h1 dX7_isMultipleOfR_13 (fun v4 => ?_)
      refine qv_aload_n (pc := 14) g dX7_isMultipleOfR_14 rfl rfl ?_
      refine qv_getr (pc := 15) g fw_RX7_11 ht (by decide) (by decide) rfl dX7_isMultipleOfR_15 ?_
      refine qv_iload_n (pc := 18) g dX7_isMultipleOfR_18 rfl rfl ?_
      refine qv_iconst (v := 2) (pc := 19) g dX7_isMultipleOfR_19 (by decide) ?_
      refine qv_iadd (pc := 20) g dX7_isMultipleOfR_20 ?_
      refine qv_lald (pc := 21) g h1 dX7_isMultipleOfR_21 (fun v5 => ?_)
      refine qv_ladd (pc := 22) g dX7_isMultipleOfR_22 ?_
      refine qv_lconst (v := 1) (pc := 23) g dX7_isMultipleOfR_23 (by decide) ?_
      refine qv_land (pc := 24) g dX7_isMultipleOfR_24 ?_
      refine qv_lconst (v := 0) (pc := 25) g dX7_isMultipleOfR_25 (by decide) ?_
      refine qv_lcmp (pc := 26) g dX7_isMultipleOfR_26 ?_
      refine qv_join (fun (k7 : Int32 → Option Int32) => ∀ (v6 : Int32), qv_V G X 3 (qv_QM G X T (qv_eI M) (0, 0)) T (0, 0) 59 [(0, .ref (X.2.2.2 + t)), (1, .int v2)] [.int v6] M (k7 v6)) (fun v6 => ?_) (fun k7 qk7 => ?_)
      · refine qv_istore_n (pc := 59) (lv1 := [(2, .int v6), (0, .ref (X.2.2.2 + t)), (1, .int v2)]) g dX7_isMultipleOfR_59 rfl (by decide) rfl ?_
        refine qv_iload_n (pc := 60) g dX7_isMultipleOfR_60 rfl rfl ?_
        refine qv_if_eq (pc := 61) (tgt := 66) g dX7_isMultipleOfR_61 (by decide) ?_ ?_
        · refine qv_iinc (pc := 66) (v := (v2 + 4)) (lv1 := [(1, .int (v2 + 4)), (2, .int v6), (0, .ref (X.2.2.2 + t))]) g dX7_isMultipleOfR_66 rfl rfl (by decide) rfl ?_
          refine qv_goto (pc := 69) (tgt := 2) g dX7_isMultipleOfR_69 (by decide) ?_
          refine qv_lv [2, 0] rfl ?_
          exact qr3 _
        · refine qv_iconst (v := 0) (pc := 64) g dX7_isMultipleOfR_64 (by decide) ?_
          exact qv_zret (pc := 65) g hr rfl rfl dX7_isMultipleOfR_65
      refine qv_if_ne (pc := 27) (tgt := 54) g dX7_isMultipleOfR_27 (by decide) ?_ ?_
      · refine qv_iconst (v := 1) (pc := 54) g dX7_isMultipleOfR_54 (by decide) ?_
        refine qv_goto (pc := 55) (tgt := 59) g dX7_isMultipleOfR_55 (by decide) ?_
        exact qk7 _
      · refine qv_aload_n (pc := 30) g dX7_isMultipleOfR_30 rfl rfl ?_
        refine qv_getr (pc := 31) g fw_RX7_11 ht (by decide) (by decide) rfl dX7_isMultipleOfR_31 ?_
        refine qv_iload_n (pc := 34) g dX7_isMultipleOfR_34 rfl rfl ?_
        refine qv_iconst (v := 1) (pc := 35) g dX7_isMultipleOfR_35 (by decide) ?_
        refine qv_iadd (pc := 36) g dX7_isMultipleOfR_36 ?_
        refine qv_lald (pc := 37) g h1 dX7_isMultipleOfR_37 (fun v8 => ?_)
        refine qv_aload_n (pc := 38) g dX7_isMultipleOfR_38 rfl rfl ?_
        refine qv_getr (pc := 39) g fw_RX7_11 ht (by decide) (by decide) rfl dX7_isMultipleOfR_39 ?_
        refine qv_iload_n (pc := 42) g dX7_isMultipleOfR_42 rfl rfl ?_
        refine qv_iconst (v := 3) (pc := 43) g dX7_isMultipleOfR_43 (by decide) ?_
        refine qv_iadd (pc := 44) g dX7_isMultipleOfR_44 ?_
        refine qv_lald (pc := 45) g h1 dX7_isMultipleOfR_45 (fun v9 => ?_)
        refine qv_ladd (pc := 46) g dX7_isMultipleOfR_46 ?_
        refine qv_lconst (v := 1) (pc := 47) g dX7_isMultipleOfR_47 (by decide) ?_
        refine qv_land (pc := 48) g dX7_isMultipleOfR_48 ?_
        refine qv_lconst (v := 0) (pc := 49) g dX7_isMultipleOfR_49 (by decide) ?_
        refine qv_lcmp (pc := 50) g dX7_isMultipleOfR_50 ?_
        refine qv_if_eq (pc := 51) (tgt := 58) g dX7_isMultipleOfR_51 (by decide) ?_ ?_
        · refine qv_iconst (v := 0) (pc := 58) g dX7_isMultipleOfR_58 (by decide) ?_
          exact qk7 _
        · refine qv_iconst (v := 1) (pc := 54) g dX7_isMultipleOfR_54 (by decide) ?_
          refine qv_goto (pc := 55) (tgt := 59) g dX7_isMultipleOfR_55 (by decide) ?_
          exact qk7 _) _ _

set_option maxHeartbeats 4000000 in
set_option maxRecDepth 100000 in
theorem c_X7_divideByR (l : Launch) (X : qv_X) (d : Nat) (T : List qv_Ent) (t : Nat) (p1 : Int32) (M : qv_Mem) {nt : Nat} (ht : qv_is (nt + 1) T 7 2 t) : qv_Ok l X yX7_divideByR cX7_divideByR 10 none (d) T M [.ref (X.2.2.2 + t), .int p1] qv_eV (f_X7_divideByR T t p1 M) := by
  refine qv_mk (lv := [(0, .ref (X.2.2.2 + t)), (1, .int p1)]) (by decide) (Nat.le_of_ble_eq_true rfl) rfl (fun G hG hRm g hr => ?_)
  have g : qv_ok G X cX7_divideByR RX7 10 := g
  unfold f_X7_divideByR
  refine qv_aload_n (pc := 0) g dX7_divideByR_0 rfl rfl ?_
  have h1 : qv_is _ T 21 16 (qv_rf T t 0) := ht.to 0 (by decide) (by decide) rfl
  refine qv_getr (pc := 1) g fw_RX7_11 ht (by decide) (by decide) rfl dX7_divideByR_1 ?_
  refine qv_iload_n (pc := 4) g dX7_divideByR_4 rfl rfl ?_
  refine qv_lald (pc := 5) g h1 dX7_divideByR_5 (fun v1 => ?_)
  refine qv_lstore_n (pc := 6) (lv1 := [(2, .long v1), (0, .ref (X.2.2.2 + t)), (1, .int p1)]) g dX7_divideByR_6 rfl (by decide) rfl ?_
  refine qv_aload_n (pc := 7) g dX7_divideByR_7 rfl rfl ?_
  refine qv_getr (pc := 8) g fw_RX7_11 ht (by decide) (by decide) rfl dX7_divideByR_8 ?_
  refine qv_iload_n (pc := 11) g dX7_divideByR_11 rfl rfl ?_
  refine qv_iconst (v := 1) (pc := 12) g dX7_divideByR_12 (by decide) ?_
  refine qv_iadd (pc := 13) g dX7_divideByR_13 ?_
  refine qv_lald (pc := 14) g h1 dX7_divideByR_14 (fun v2 => ?_)
  refine qv_lstore (pc := 15) (lv1 := [(4, .long v2), (2, .long v1), (0, .ref (X.2.2.2 + t)), (1, .int p1)]) g dX7_divideByR_15 (by decide) rfl ?_
  refine qv_aload_n (pc := 17) g dX7_divideByR_17 rfl rfl ?_
  refine qv_getr (pc := 18) g fw_RX7_11 ht (by decide) (by decide) rfl dX7_divideByR_18 ?_
  refine qv_iload_n (pc := 21) g dX7_divideByR_21 rfl rfl ?_
  refine qv_iconst (v := 2) (pc := 22) g dX7_divideByR_22 (by decide) ?_
  refine qv_iadd (pc := 23) g dX7_divideByR_23 ?_
  refine qv_lald (pc := 24) g h1 dX7_divideByR_24 (fun v3 => ?_)
  refine qv_lstore (pc := 25) (lv1 := [(6, .long v3), (4, .long v2), (2, .long v1), (0, .ref (X.2.2.2 + t)), (1, .int p1)]) g dX7_divideByR_25 (by decide) rfl ?_
  refine qv_aload_n (pc := 27) g dX7_divideByR_27 rfl rfl ?_
  refine qv_getr (pc := 28) g fw_RX7_11 ht (by decide) (by decide) rfl dX7_divideByR_28 ?_
  refine qv_iload_n (pc := 31) g dX7_divideByR_31 rfl rfl ?_
  refine qv_iconst (v := 3) (pc := 32) g dX7_divideByR_32 (by decide) ?_
  refine qv_iadd (pc := 33) g dX7_divideByR_33 ?_
  refine qv_lald (pc := 34) g h1 dX7_divideByR_34 (fun v4 => ?_)
  refine qv_lstore (pc := 35) (lv1 := [(8, .long v4), (6, .long v3), (4, .long v2), (2, .long v1), (0, .ref (X.2.2.2 + t)), (1, .int p1)]) g dX7_divideByR_35 (by decide) rfl ?_
  refine qv_aload_n (pc := 37) g dX7_divideByR_37 rfl rfl ?_
  refine qv_getr (pc := 38) g fw_RX7_11 ht (by decide) (by decide) rfl dX7_divideByR_38 ?_
  refine qv_iload_n (pc := 41) g dX7_divideByR_41 rfl rfl ?_
  refine qv_lload (pc := 42) g dX7_divideByR_42 rfl ?_
  refine qv_lload (pc := 44) g dX7_divideByR_44 rfl ?_
  refine qv_lsub (pc := 46) g dX7_divideByR_46 ?_
  refine qv_ldc2 (pc := 47) g kl_RX7_84 dX7_divideByR_47 ?_
  refine qv_ldiv (pc := 50) g dX7_divideByR_50 (by decide) ?_
  refine qv_last (pc := 51) g h1 dX7_divideByR_51 (fun M5 => ?_)
  refine qv_aload_n (pc := 52) g dX7_divideByR_52 rfl rfl ?_
  refine qv_getr (pc := 53) g fw_RX7_11 ht (by decide) (by decide) rfl dX7_divideByR_53 ?_
  refine qv_iload_n (pc := 56) g dX7_divideByR_56 rfl rfl ?_
  refine qv_iconst (v := 1) (pc := 57) g dX7_divideByR_57 (by decide) ?_
  refine qv_iadd (pc := 58) g dX7_divideByR_58 ?_
  refine qv_lload_n (pc := 59) g dX7_divideByR_59 rfl rfl ?_
  refine qv_lload (pc := 60) g dX7_divideByR_60 rfl ?_
  refine qv_ladd (pc := 62) g dX7_divideByR_62 ?_
  refine qv_ldc2 (pc := 63) g kl_RX7_84 dX7_divideByR_63 ?_
  refine qv_ldiv (pc := 66) g dX7_divideByR_66 (by decide) ?_
  refine qv_last (pc := 67) g h1 dX7_divideByR_67 (fun M6 => ?_)
  refine qv_aload_n (pc := 68) g dX7_divideByR_68 rfl rfl ?_
  refine qv_getr (pc := 69) g fw_RX7_11 ht (by decide) (by decide) rfl dX7_divideByR_69 ?_
  refine qv_iload_n (pc := 72) g dX7_divideByR_72 rfl rfl ?_
  refine qv_iconst (v := 2) (pc := 73) g dX7_divideByR_73 (by decide) ?_
  refine qv_iadd (pc := 74) g dX7_divideByR_74 ?_
  refine qv_lload (pc := 75) g dX7_divideByR_75 rfl ?_
  refine qv_lload (pc := 77) g dX7_divideByR_77 rfl ?_
  refine qv_ladd (pc := 79) g dX7_divideByR_79 ?_
  refine qv_ldc2 (pc := 80) g kl_RX7_84 dX7_divideByR_80 ?_
  refine qv_ldiv (pc := 83) g dX7_divideByR_83 (by decide) ?_
  refine qv_last (pc := 84) g h1 dX7_divideByR_84 (fun M7 => ?_)
  refine qv_aload_n (pc := 85) g dX7_divideByR_85 rfl rfl ?_
  refine qv_getr (pc := 86) g fw_RX7_11 ht (by decide) (by decide) rfl dX7_divideByR_86 ?_
  refine qv_iload_n (pc := 89) g dX7_divideByR_89 rfl rfl ?_
  refine qv_iconst (v := 3) (pc := 90) g dX7_divideByR_90 (by decide) ?_
  refine qv_iadd (pc := 91) g dX7_divideByR_91 ?_
  refine qv_lload (pc := 92) g dX7_divideByR_92 rfl ?_
  refine qv_lload_n (pc := 94) g dX7_divideByR_94 rfl rfl ?_
  refine qv_lsub (pc := 95) g dX7_divideByR_95 ?_
  refine qv_ldc2 (pc := 96) g kl_RX7_84 dX7_divideByR_96 ?_
  refine qv_ldiv (pc := 99) g dX7_divideByR_99 (by decide) ?_
  refine qv_last (pc := 100) g h1 dX7_divideByR_100 (fun M8 => ?_)
  exact qv_vret (pc := 101) g hr rfl dX7_divideByR_101

set_option maxHeartbeats 4000000 in
set_option maxRecDepth 100000 in
theorem c_X7_lower (l : Launch) (X : qv_X) (d : Nat) (T : List qv_Ent) (t : Nat) (M : qv_Mem) {nt : Nat} (ht : qv_is (nt + 1) T 7 2 t) : qv_Ok l X yX7_lower cX7_lower 3 none (d + 1) T M [.ref (X.2.2.2 + t)] qv_eV (f_X7_lower T t M) := by
  refine qv_mk (lv := [(0, .ref (X.2.2.2 + t))]) (by decide) (Nat.le_of_ble_eq_true rfl) rfl (fun G hG hRm g hr => ?_)
  have g : qv_ok G X cX7_lower RX7 3 := g
  unfold f_X7_lower
  refine qv_iconst (v := 0) (pc := 0) g dX7_lower_0 (by decide) ?_
  refine qv_istore_n (pc := 1) (lv1 := [(1, .int 0), (0, .ref (X.2.2.2 + t))]) g dX7_lower_1 rfl (by decide) rfl ?_
  refine qv_join (fun (k2 : qv_Mem → Option qv_Mem) => ∀ (M1 : qv_Mem), qv_V G X 3 (qv_QM G X T qv_eV (0, 0)) T (0, 0) 58 [] [] M1 (k2 M1)) (fun M1 => ?_) (fun k2 qk2 => ?_)
  · exact qv_vret (pc := 58) g hr rfl dX7_lower_58
  refine qv_lv [1, 0] rfl ?_
  exact qv_L2 (Vh := fun (v3 : Int32) (M4 : qv_Mem) o => qv_V G X 3 (qv_QM G X T qv_eV (0, 0)) T (0, 0) 2 [(0, .ref (X.2.2.2 + t)), (1, .int v3)] [] M4 o) (fun _ _ => qv_none) (fun r5 qr5 v3 M4 => by
    unfold b_X7_lower_2
    refine qv_iload_n (pc := 2) g dX7_lower_2 rfl rfl ?_
    refine qv_sipush (v := 1000) (pc := 3) g dX7_lower_3 (by decide) ?_
    refine qv_icmp_ge (pc := 6) (tgt := 58) g dX7_lower_6 (by decide) ?_ ?_
    · refine qv_lv [] rfl ?_
      exact qk2 _
    · refine qv_aload_n (pc := 9) g dX7_lower_9 rfl rfl ?_
      refine qv_gets (pc := 10) g fw_RX7_15 ht (by decide) (by decide) rfl dX7_lower_10 (fun v6 => ?_)
      refine qv_if_le (pc := 13) (tgt := 58) g dX7_lower_13 (by decide) ?_ ?_
      · refine qv_lv [] rfl ?_
        exact qk2 _
      · refine qv_aload_n (pc := 16) g dX7_lower_16 rfl rfl ?_
        refine qv_aI rfl (qv_cv (pc := 17) g (c_X7_isMultipleOfR (gl G) X d T _ M4 ht) (qv_R hRm (by omega) (by decide)) ⟨Nat.zero_le _, Nat.zero_le _⟩ mw_X7_isMultipleOfR lk_RX7_77 im_X7_isMultipleOfR se_X7_isMultipleOfR (by decide) rfl ht pd_X7_isMultipleOfR rfl (Nat.le_of_ble_eq_true rfl) dX7_lower_17) (fun v7 => ?_)
        refine qv_if_eq (pc := 20) (tgt := 58) g dX7_lower_20 (by decide) ?_ ?_
        · refine qv_lv [] rfl ?_
          exact qk2 _
        · refine qv_iconst (v := 0) (pc := 23) g dX7_lower_23 (by decide) ?_
          refine qv_istore_n (pc := 24) (lv1 := [(2, .int 0), (0, .ref (X.2.2.2 + t)), (1, .int v3)]) g dX7_lower_24 rfl (by decide) rfl ?_
          refine qv_join (fun (k9 : qv_Mem → Option qv_Mem) => ∀ (M8 : qv_Mem), qv_V G X 3 (qv_QM G X T qv_eV (0, 0)) T (0, 0) 42 [(0, .ref (X.2.2.2 + t)), (1, .int v3)] [] M8 (k9 M8)) (fun M8 => ?_) (fun k9 qk9 => ?_)
          · refine qv_aload_n (pc := 42) g dX7_lower_42 rfl rfl ?_
            refine qv_dup (pc := 43) g dX7_lower_43 rfl ?_
            refine qv_gets (pc := 44) g fw_RX7_15 ht (by decide) (by decide) rfl dX7_lower_44 (fun v10 => ?_)
            refine qv_iconst (v := 1) (pc := 47) g dX7_lower_47 (by decide) ?_
            refine qv_isub (pc := 48) g dX7_lower_48 ?_
            refine qv_puti (pc := 49) g pw_RX7_15 ht (by decide) (by decide) rfl dX7_lower_49 (fun M11 => ?_)
            refine qv_iinc (pc := 52) (v := (v3 + 1)) (lv1 := [(1, .int (v3 + 1)), (0, .ref (X.2.2.2 + t))]) g dX7_lower_52 rfl rfl (by decide) rfl ?_
            refine qv_goto (pc := 55) (tgt := 2) g dX7_lower_55 (by decide) ?_
            refine qv_lv [1, 0] rfl ?_
            exact qr5 _ _
          refine qv_lv [1, 2, 0] rfl ?_
          exact qv_L2 (Vh := fun (v12 : Int32) (M13 : qv_Mem) o => qv_V G X 3 (qv_QM G X T qv_eV (0, 0)) T (0, 0) 25 [(0, .ref (X.2.2.2 + t)), (1, .int v3), (2, .int v12)] [] M13 o) (fun _ _ => qv_none) (fun r14 qr14 v12 M13 => by
            unfold b_X7_lower_25
            refine qv_iload_n (pc := 25) g dX7_lower_25 rfl rfl ?_
            refine qv_bipush (v := 16) (pc := 26) g dX7_lower_26 (by decide) ?_
            refine qv_icmp_ge (pc := 28) (tgt := 42) g dX7_lower_28 (by decide) ?_ ?_
            · refine qv_lv [0, 1] rfl ?_
              exact qk9 _
            · refine qv_aload_n (pc := 31) g dX7_lower_31 rfl rfl ?_
              refine qv_iload_n (pc := 32) g dX7_lower_32 rfl rfl ?_
              refine qv_aV (qv_cv (pc := 33) g (c_X7_divideByR (gl G) X d T _ _ M13 ht) (qv_R hRm (by omega) (by decide)) ⟨Nat.zero_le _, Nat.zero_le _⟩ mw_X7_divideByR lk_RX7_81 im_X7_divideByR se_X7_divideByR (by decide) rfl ht pd_X7_divideByR rfl (Nat.le_of_ble_eq_true rfl) dX7_lower_33) (fun M15 => ?_)
              refine qv_iinc (pc := 36) (v := (v12 + 4)) (lv1 := [(2, .int (v12 + 4)), (0, .ref (X.2.2.2 + t)), (1, .int v3)]) g dX7_lower_36 rfl rfl (by decide) rfl ?_
              refine qv_goto (pc := 39) (tgt := 25) g dX7_lower_39 (by decide) ?_
              refine qv_lv [1, 2, 0] rfl ?_
              exact qr14 _ _) _ _ _) _ _ _

set_option maxHeartbeats 4000000 in
set_option maxRecDepth 100000 in
theorem c_X7_applyBehind (l : Launch) (X : qv_X) (d : Nat) (T : List qv_Ent) (t : Nat) (p1 : Int32) (M : qv_Mem) {nt : Nat} (ht : qv_is (nt + 1) T 7 2 t) : qv_Ok l X yX7_applyBehind cX7_applyBehind 2 none (d + 2) T M [.ref (X.2.2.2 + t), .int p1] qv_eV (f_X7_applyBehind T t p1 M) := by
  refine qv_mk (lv := [(0, .ref (X.2.2.2 + t)), (1, .int p1)]) (by decide) (Nat.le_of_ble_eq_true rfl) rfl (fun G hG hRm g hr => ?_)
  have g : qv_ok G X cX7_applyBehind RX7 2 := g
  unfold f_X7_applyBehind
  refine qv_aload_n (pc := 0) g dX7_applyBehind_0 rfl rfl ?_
  refine qv_iload_n (pc := 1) g dX7_applyBehind_1 rfl rfl ?_
  refine qv_iconst (v := 0) (pc := 2) g dX7_applyBehind_2 (by decide) ?_
  refine qv_iconst (v := 0) (pc := 3) g dX7_applyBehind_3 (by decide) ?_
  refine qv_aI rfl (qv_cs (pc := 4) g (c_X7_placeOf (gl G) X (d + 1) T _ _ M) (qv_R hRm (by omega) (by decide)) ⟨Nat.zero_le _, Nat.zero_le _⟩ mw_X7_placeOf lk_RX7_25 st_X7_placeOf pd_X7_placeOf rfl (Nat.le_of_ble_eq_true rfl) dX7_applyBehind_4) (fun v1 => ?_)
  refine qv_iconst (v := 0) (pc := 7) g dX7_applyBehind_7 (by decide) ?_
  refine qv_iconst (v := 1) (pc := 8) g dX7_applyBehind_8 (by decide) ?_
  refine qv_aI rfl (qv_cs (pc := 9) g (c_X7_placeOf (gl G) X (d + 1) T _ _ M) (qv_R hRm (by omega) (by decide)) ⟨Nat.zero_le _, Nat.zero_le _⟩ mw_X7_placeOf lk_RX7_25 st_X7_placeOf pd_X7_placeOf rfl (Nat.le_of_ble_eq_true rfl) dX7_applyBehind_9) (fun v2 => ?_)
  refine qv_aV (qv_cv (pc := 12) g (c_X7_applyToPair (gl G) X d T _ _ _ _ M ht) (qv_R hRm (by omega) (by decide)) ⟨Nat.zero_le _, Nat.zero_le _⟩ mw_X7_applyToPair lk_RX7_60 im_X7_applyToPair se_X7_applyToPair (by decide) rfl ht pd_X7_applyToPair rfl (Nat.le_of_ble_eq_true rfl) dX7_applyBehind_12) (fun M3 => ?_)
  refine qv_aload_n (pc := 15) g dX7_applyBehind_15 rfl rfl ?_
  refine qv_iload_n (pc := 16) g dX7_applyBehind_16 rfl rfl ?_
  refine qv_iconst (v := 1) (pc := 17) g dX7_applyBehind_17 (by decide) ?_
  refine qv_iconst (v := 0) (pc := 18) g dX7_applyBehind_18 (by decide) ?_
  refine qv_aI rfl (qv_cs (pc := 19) g (c_X7_placeOf (gl G) X (d + 1) T _ _ M3) (qv_R hRm (by omega) (by decide)) ⟨Nat.zero_le _, Nat.zero_le _⟩ mw_X7_placeOf lk_RX7_25 st_X7_placeOf pd_X7_placeOf rfl (Nat.le_of_ble_eq_true rfl) dX7_applyBehind_19) (fun v4 => ?_)
  refine qv_iconst (v := 1) (pc := 22) g dX7_applyBehind_22 (by decide) ?_
  refine qv_iconst (v := 1) (pc := 23) g dX7_applyBehind_23 (by decide) ?_
  refine qv_aI rfl (qv_cs (pc := 24) g (c_X7_placeOf (gl G) X (d + 1) T _ _ M3) (qv_R hRm (by omega) (by decide)) ⟨Nat.zero_le _, Nat.zero_le _⟩ mw_X7_placeOf lk_RX7_25 st_X7_placeOf pd_X7_placeOf rfl (Nat.le_of_ble_eq_true rfl) dX7_applyBehind_24) (fun v5 => ?_)
  refine qv_aV (qv_cv (pc := 27) g (c_X7_applyToPair (gl G) X d T _ _ _ _ M3 ht) (qv_R hRm (by omega) (by decide)) ⟨Nat.zero_le _, Nat.zero_le _⟩ mw_X7_applyToPair lk_RX7_60 im_X7_applyToPair se_X7_applyToPair (by decide) rfl ht pd_X7_applyToPair rfl (Nat.le_of_ble_eq_true rfl) dX7_applyBehind_27) (fun M6 => ?_)
  refine qv_iload_n (pc := 30) g dX7_applyBehind_30 rfl rfl ?_
  refine qv_if_ne (pc := 31) (tgt := 48) g dX7_applyBehind_31 (by decide) ?_ ?_
  · exact qv_vret (pc := 48) g hr rfl dX7_applyBehind_48
  · refine qv_aload_n (pc := 34) g dX7_applyBehind_34 rfl rfl ?_
    refine qv_dup (pc := 35) g dX7_applyBehind_35 rfl ?_
    refine qv_gets (pc := 36) g fw_RX7_15 ht (by decide) (by decide) rfl dX7_applyBehind_36 (fun v7 => ?_)
    refine qv_iconst (v := 1) (pc := 39) g dX7_applyBehind_39 (by decide) ?_
    refine qv_iadd (pc := 40) g dX7_applyBehind_40 ?_
    refine qv_puti (pc := 41) g pw_RX7_15 ht (by decide) (by decide) rfl dX7_applyBehind_41 (fun M8 => ?_)
    refine qv_aload_n (pc := 44) g dX7_applyBehind_44 rfl rfl ?_
    refine qv_aV (qv_cv (pc := 45) g (c_X7_lower (gl G) X d T _ M8 ht) (qv_R hRm (by omega) (by decide)) ⟨Nat.zero_le _, Nat.zero_le _⟩ mw_X7_lower lk_RX7_64 im_X7_lower se_X7_lower (by decide) rfl ht pd_X7_lower rfl (Nat.le_of_ble_eq_true rfl) dX7_applyBehind_45) (fun M9 => ?_)
    exact qv_vret (pc := 48) g hr rfl dX7_applyBehind_48

set_option maxHeartbeats 4000000 in
set_option maxRecDepth 100000 in
theorem c_X9_settleRegister (l : Launch) (X : qv_X) (d : Nat) (T : List qv_Ent) (t : Nat) (p1 : Int32) (M : qv_Mem) {nt : Nat} (ht : qv_is (nt + 4) T 9 14 t) : qv_Ok l X yX9_settleRegister cX9_settleRegister 2 (some .int) (d + 1) T M [.ref (X.2.2.2 + t), .int p1] qv_eIM (f_X9_settleRegister T t p1 M) := by
  refine qv_mk (lv := [(0, .ref (X.2.2.2 + t)), (1, .int p1)]) (by decide) (Nat.le_of_ble_eq_true rfl) rfl (fun G hG hRm g hr => ?_)
  have g : qv_ok G X cX9_settleRegister RX9 2 := g
  unfold f_X9_settleRegister
  refine qv_aload_n (pc := 0) g dX9_settleRegister_0 rfl rfl ?_
  have h1 : qv_is _ T 7 2 (qv_rf T t 10) := ht.to 10 (by decide) (by decide) rfl
  refine qv_getr (pc := 1) g fw_RX9_77 ht (by decide) (by decide) rfl dX9_settleRegister_1 ?_
  refine qv_gets (pc := 4) g fw_RX9_98 h1 (by decide) (by decide) rfl dX9_settleRegister_4 (fun v1 => ?_)
  refine qv_bipush (v := 40) (pc := 7) g dX9_settleRegister_7 (by decide) ?_
  refine qv_icmp_le (pc := 9) (tgt := 15) g dX9_settleRegister_9 (by decide) ?_ ?_
  · refine qv_aload_n (pc := 15) g dX9_settleRegister_15 rfl rfl ?_
    have h2 : qv_is _ T 0 3 (qv_rf T t 0) := ht.to 0 (by decide) (by decide) rfl
    refine qv_getr (pc := 16) g fw_RX9_12 ht (by decide) (by decide) rfl dX9_settleRegister_16 ?_
    have h3 : qv_is _ T 37 4 (qv_rf T (qv_rf T t 0) 0) := h2.to 0 (by decide) (by decide) rfl
    refine qv_getr (pc := 19) g fw_RX9_94 h2 (by decide) (by decide) rfl dX9_settleRegister_19 ?_
    refine qv_iload_n (pc := 22) g dX9_settleRegister_22 rfl rfl ?_
    refine qv_aald (pc := 23) g (by decide) h3 (fun _ _ => ⟨_, rfl⟩) dX9_settleRegister_23 (fun z2 => ?_)
    have h4 : qv_is _ T 7 2 (qv_rf T (qv_rf T (qv_rf T t 0) 0) p1.toNatClampNeg) := h3.to _ (by decide) (qv_inb_lt z2) rfl
    refine qv_aload_n (pc := 24) g dX9_settleRegister_24 rfl rfl ?_
    refine qv_getr (pc := 25) g fw_RX9_77 ht (by decide) (by decide) rfl dX9_settleRegister_25 ?_
    refine qv_aV (qv_cv (pc := 28) g (c_X7_makeCopy (gl G) X d T _ _ M h4 h1) (qv_R hRm (by omega) (by decide)) ⟨Nat.zero_le _, Nat.zero_le _⟩ mw_X7_makeCopy lk_RX9_108 im_X7_makeCopy se_X7_makeCopy (by decide) rfl h4 pd_X7_makeCopy rfl (Nat.le_of_ble_eq_true rfl) dX9_settleRegister_28) (fun M3 => ?_)
    refine qv_aload_n (pc := 31) g dX9_settleRegister_31 rfl rfl ?_
    refine qv_getr (pc := 32) g fw_RX9_77 ht (by decide) (by decide) rfl dX9_settleRegister_32 ?_
    refine qv_gets (pc := 35) g fw_RX9_98 h1 (by decide) (by decide) rfl dX9_settleRegister_35 (fun v4 => ?_)
    exact qv_iret (pc := 38) g hr rfl dX9_settleRegister_38
  · refine qv_bipush (v := (-5)) (pc := 12) g dX9_settleRegister_12 (by decide) ?_
    exact qv_iret (pc := 14) g hr rfl dX9_settleRegister_14

set_option maxHeartbeats 4000000 in
set_option maxRecDepth 100000 in
theorem c_X9_gate (l : Launch) (X : qv_X) (d : Nat) (T : List qv_Ent) (t : Nat) (p1 : Int32) (p2 : Int32) (M : qv_Mem) {nt : Nat} (ht : qv_is (nt + 4) T 9 14 t) : qv_Ok l X yX9_gate cX9_gate 3 (some .int) (d + 3) T M [.ref (X.2.2.2 + t), .int p1, .int p2] qv_eIM (f_X9_gate T t p1 p2 M) := by
  refine qv_mk (lv := [(0, .ref (X.2.2.2 + t)), (1, .int p1), (2, .int p2)]) (by decide) (Nat.le_of_ble_eq_true rfl) rfl (fun G hG hRm g hr => ?_)
  have g : qv_ok G X cX9_gate RX9 3 := g
  unfold f_X9_gate
  refine qv_iload_n (pc := 0) g dX9_gate_0 rfl rfl ?_
  refine qv_aI rfl (qv_cs (pc := 1) g (c_X9_isRegister (gl G) X (d + 1) T _ M) (qv_R hRm (by omega) (by decide)) ⟨Nat.zero_le _, Nat.zero_le _⟩ mw_X9_isRegister lk_RX9_90 st_X9_isRegister pd_X9_isRegister rfl (Nat.le_of_ble_eq_true rfl) dX9_gate_1) (fun v1 => ?_)
  refine qv_if_eq (pc := 4) (tgt := 14) g dX9_gate_4 (by decide) ?_ ?_
  · refine qv_iconst (v := (-1)) (pc := 14) g dX9_gate_14 (by decide) ?_
    exact qv_iret (pc := 15) g hr rfl dX9_gate_15
  · refine qv_iload_n (pc := 7) g dX9_gate_7 rfl rfl ?_
    refine qv_aI rfl (qv_cs (pc := 8) g (c_X9_isGate (gl G) X (d + 1) T _ M) (qv_R hRm (by omega) (by decide)) ⟨Nat.zero_le _, Nat.zero_le _⟩ mw_X9_isGate lk_RX9_105 st_X9_isGate pd_X9_isGate rfl (Nat.le_of_ble_eq_true rfl) dX9_gate_8) (fun v2 => ?_)
    refine qv_if_ne (pc := 11) (tgt := 16) g dX9_gate_11 (by decide) ?_ ?_
    · refine qv_aload_n (pc := 16) g dX9_gate_16 rfl rfl ?_
      have h1 : qv_is _ T 7 2 (qv_rf T t 10) := ht.to 10 (by decide) (by decide) rfl
      refine qv_getr (pc := 17) g fw_RX9_77 ht (by decide) (by decide) rfl dX9_gate_17 ?_
      refine qv_aload_n (pc := 20) g dX9_gate_20 rfl rfl ?_
      have h2 : qv_is _ T 0 3 (qv_rf T t 0) := ht.to 0 (by decide) (by decide) rfl
      refine qv_getr (pc := 21) g fw_RX9_12 ht (by decide) (by decide) rfl dX9_gate_21 ?_
      have h3 : qv_is _ T 37 4 (qv_rf T (qv_rf T t 0) 0) := h2.to 0 (by decide) (by decide) rfl
      refine qv_getr (pc := 24) g fw_RX9_94 h2 (by decide) (by decide) rfl dX9_gate_24 ?_
      refine qv_iload_n (pc := 27) g dX9_gate_27 rfl rfl ?_
      refine qv_aald (pc := 28) g (by decide) h3 (fun _ _ => ⟨_, rfl⟩) dX9_gate_28 (fun z3 => ?_)
      have h4 : qv_is _ T 7 2 (qv_rf T (qv_rf T (qv_rf T t 0) 0) p1.toNatClampNeg) := h3.to _ (by decide) (qv_inb_lt z3) rfl
      refine qv_aV (qv_cv (pc := 29) g (c_X7_makeCopy (gl G) X (d + 2) T _ _ M h1 h4) (qv_R hRm (by omega) (by decide)) ⟨Nat.zero_le _, Nat.zero_le _⟩ mw_X7_makeCopy lk_RX9_108 im_X7_makeCopy se_X7_makeCopy (by decide) rfl h1 pd_X7_makeCopy rfl (Nat.le_of_ble_eq_true rfl) dX9_gate_29) (fun M4 => ?_)
      refine qv_aload_n (pc := 32) g dX9_gate_32 rfl rfl ?_
      refine qv_getr (pc := 33) g fw_RX9_77 ht (by decide) (by decide) rfl dX9_gate_33 ?_
      refine qv_iload_n (pc := 36) g dX9_gate_36 rfl rfl ?_
      refine qv_aV (qv_cv (pc := 37) g (c_X7_applyBehind (gl G) X d T _ _ M4 h1) (qv_R hRm (by omega) (by decide)) ⟨Nat.zero_le _, Nat.zero_le _⟩ mw_X7_applyBehind lk_RX9_112 im_X7_applyBehind se_X7_applyBehind (by decide) rfl h1 pd_X7_applyBehind rfl (Nat.le_of_ble_eq_true rfl) dX9_gate_37) (fun M5 => ?_)
      refine qv_aload_n (pc := 40) g dX9_gate_40 rfl rfl ?_
      refine qv_iload_n (pc := 41) g dX9_gate_41 rfl rfl ?_
      refine qv_aIM (qv_cv (pc := 42) g (c_X9_settleRegister (gl G) X (d + 1) T _ _ M5 ht) (qv_R hRm (by omega) (by decide)) ⟨Nat.zero_le _, Nat.zero_le _⟩ mw_X9_settleRegister lk_RX9_116 im_X9_settleRegister se_X9_settleRegister (by decide) rfl ht pd_X9_settleRegister rfl (Nat.le_of_ble_eq_true rfl) dX9_gate_42) (fun v6 M7 => ?_)
      exact qv_iret (pc := 45) g hr rfl dX9_gate_45
    · refine qv_iconst (v := (-1)) (pc := 14) g dX9_gate_14 (by decide) ?_
      exact qv_iret (pc := 15) g hr rfl dX9_gate_15

set_option maxHeartbeats 4000000 in
set_option maxRecDepth 100000 in
theorem c_X7_applyAhead (l : Launch) (X : qv_X) (d : Nat) (T : List qv_Ent) (t : Nat) (p1 : Int32) (M : qv_Mem) {nt : Nat} (ht : qv_is (nt + 1) T 7 2 t) : qv_Ok l X yX7_applyAhead cX7_applyAhead 2 none (d + 2) T M [.ref (X.2.2.2 + t), .int p1] qv_eV (f_X7_applyAhead T t p1 M) := by
  refine qv_mk (lv := [(0, .ref (X.2.2.2 + t)), (1, .int p1)]) (by decide) (Nat.le_of_ble_eq_true rfl) rfl (fun G hG hRm g hr => ?_)
  have g : qv_ok G X cX7_applyAhead RX7 2 := g
  unfold f_X7_applyAhead
  refine qv_aload_n (pc := 0) g dX7_applyAhead_0 rfl rfl ?_
  refine qv_iload_n (pc := 1) g dX7_applyAhead_1 rfl rfl ?_
  refine qv_iconst (v := 0) (pc := 2) g dX7_applyAhead_2 (by decide) ?_
  refine qv_iconst (v := 0) (pc := 3) g dX7_applyAhead_3 (by decide) ?_
  refine qv_aI rfl (qv_cs (pc := 4) g (c_X7_placeOf (gl G) X (d + 1) T _ _ M) (qv_R hRm (by omega) (by decide)) ⟨Nat.zero_le _, Nat.zero_le _⟩ mw_X7_placeOf lk_RX7_25 st_X7_placeOf pd_X7_placeOf rfl (Nat.le_of_ble_eq_true rfl) dX7_applyAhead_4) (fun v1 => ?_)
  refine qv_iconst (v := 1) (pc := 7) g dX7_applyAhead_7 (by decide) ?_
  refine qv_iconst (v := 0) (pc := 8) g dX7_applyAhead_8 (by decide) ?_
  refine qv_aI rfl (qv_cs (pc := 9) g (c_X7_placeOf (gl G) X (d + 1) T _ _ M) (qv_R hRm (by omega) (by decide)) ⟨Nat.zero_le _, Nat.zero_le _⟩ mw_X7_placeOf lk_RX7_25 st_X7_placeOf pd_X7_placeOf rfl (Nat.le_of_ble_eq_true rfl) dX7_applyAhead_9) (fun v2 => ?_)
  refine qv_aV (qv_cv (pc := 12) g (c_X7_applyToPair (gl G) X d T _ _ _ _ M ht) (qv_R hRm (by omega) (by decide)) ⟨Nat.zero_le _, Nat.zero_le _⟩ mw_X7_applyToPair lk_RX7_60 im_X7_applyToPair se_X7_applyToPair (by decide) rfl ht pd_X7_applyToPair rfl (Nat.le_of_ble_eq_true rfl) dX7_applyAhead_12) (fun M3 => ?_)
  refine qv_aload_n (pc := 15) g dX7_applyAhead_15 rfl rfl ?_
  refine qv_iload_n (pc := 16) g dX7_applyAhead_16 rfl rfl ?_
  refine qv_iconst (v := 0) (pc := 17) g dX7_applyAhead_17 (by decide) ?_
  refine qv_iconst (v := 1) (pc := 18) g dX7_applyAhead_18 (by decide) ?_
  refine qv_aI rfl (qv_cs (pc := 19) g (c_X7_placeOf (gl G) X (d + 1) T _ _ M3) (qv_R hRm (by omega) (by decide)) ⟨Nat.zero_le _, Nat.zero_le _⟩ mw_X7_placeOf lk_RX7_25 st_X7_placeOf pd_X7_placeOf rfl (Nat.le_of_ble_eq_true rfl) dX7_applyAhead_19) (fun v4 => ?_)
  refine qv_iconst (v := 1) (pc := 22) g dX7_applyAhead_22 (by decide) ?_
  refine qv_iconst (v := 1) (pc := 23) g dX7_applyAhead_23 (by decide) ?_
  refine qv_aI rfl (qv_cs (pc := 24) g (c_X7_placeOf (gl G) X (d + 1) T _ _ M3) (qv_R hRm (by omega) (by decide)) ⟨Nat.zero_le _, Nat.zero_le _⟩ mw_X7_placeOf lk_RX7_25 st_X7_placeOf pd_X7_placeOf rfl (Nat.le_of_ble_eq_true rfl) dX7_applyAhead_24) (fun v5 => ?_)
  refine qv_aV (qv_cv (pc := 27) g (c_X7_applyToPair (gl G) X d T _ _ _ _ M3 ht) (qv_R hRm (by omega) (by decide)) ⟨Nat.zero_le _, Nat.zero_le _⟩ mw_X7_applyToPair lk_RX7_60 im_X7_applyToPair se_X7_applyToPair (by decide) rfl ht pd_X7_applyToPair rfl (Nat.le_of_ble_eq_true rfl) dX7_applyAhead_27) (fun M6 => ?_)
  refine qv_iload_n (pc := 30) g dX7_applyAhead_30 rfl rfl ?_
  refine qv_if_ne (pc := 31) (tgt := 48) g dX7_applyAhead_31 (by decide) ?_ ?_
  · exact qv_vret (pc := 48) g hr rfl dX7_applyAhead_48
  · refine qv_aload_n (pc := 34) g dX7_applyAhead_34 rfl rfl ?_
    refine qv_dup (pc := 35) g dX7_applyAhead_35 rfl ?_
    refine qv_gets (pc := 36) g fw_RX7_15 ht (by decide) (by decide) rfl dX7_applyAhead_36 (fun v7 => ?_)
    refine qv_iconst (v := 1) (pc := 39) g dX7_applyAhead_39 (by decide) ?_
    refine qv_iadd (pc := 40) g dX7_applyAhead_40 ?_
    refine qv_puti (pc := 41) g pw_RX7_15 ht (by decide) (by decide) rfl dX7_applyAhead_41 (fun M8 => ?_)
    refine qv_aload_n (pc := 44) g dX7_applyAhead_44 rfl rfl ?_
    refine qv_aV (qv_cv (pc := 45) g (c_X7_lower (gl G) X d T _ M8 ht) (qv_R hRm (by omega) (by decide)) ⟨Nat.zero_le _, Nat.zero_le _⟩ mw_X7_lower lk_RX7_64 im_X7_lower se_X7_lower (by decide) rfl ht pd_X7_lower rfl (Nat.le_of_ble_eq_true rfl) dX7_applyAhead_45) (fun M9 => ?_)
    exact qv_vret (pc := 48) g hr rfl dX7_applyAhead_48

set_option maxHeartbeats 4000000 in
set_option maxRecDepth 100000 in
theorem c_X9_ahead (l : Launch) (X : qv_X) (d : Nat) (T : List qv_Ent) (t : Nat) (p1 : Int32) (p2 : Int32) (M : qv_Mem) {nt : Nat} (ht : qv_is (nt + 4) T 9 14 t) : qv_Ok l X yX9_ahead cX9_ahead 3 (some .int) (d + 3) T M [.ref (X.2.2.2 + t), .int p1, .int p2] qv_eIM (f_X9_ahead T t p1 p2 M) := by
  refine qv_mk (lv := [(0, .ref (X.2.2.2 + t)), (1, .int p1), (2, .int p2)]) (by decide) (Nat.le_of_ble_eq_true rfl) rfl (fun G hG hRm g hr => ?_)
  have g : qv_ok G X cX9_ahead RX9 3 := g
  unfold f_X9_ahead
  refine qv_iload_n (pc := 0) g dX9_ahead_0 rfl rfl ?_
  refine qv_aI rfl (qv_cs (pc := 1) g (c_X9_isRegister (gl G) X (d + 1) T _ M) (qv_R hRm (by omega) (by decide)) ⟨Nat.zero_le _, Nat.zero_le _⟩ mw_X9_isRegister lk_RX9_90 st_X9_isRegister pd_X9_isRegister rfl (Nat.le_of_ble_eq_true rfl) dX9_ahead_1) (fun v1 => ?_)
  refine qv_if_eq (pc := 4) (tgt := 14) g dX9_ahead_4 (by decide) ?_ ?_
  · refine qv_iconst (v := (-1)) (pc := 14) g dX9_ahead_14 (by decide) ?_
    exact qv_iret (pc := 15) g hr rfl dX9_ahead_15
  · refine qv_iload_n (pc := 7) g dX9_ahead_7 rfl rfl ?_
    refine qv_aI rfl (qv_cs (pc := 8) g (c_X9_isGate (gl G) X (d + 1) T _ M) (qv_R hRm (by omega) (by decide)) ⟨Nat.zero_le _, Nat.zero_le _⟩ mw_X9_isGate lk_RX9_105 st_X9_isGate pd_X9_isGate rfl (Nat.le_of_ble_eq_true rfl) dX9_ahead_8) (fun v2 => ?_)
    refine qv_if_ne (pc := 11) (tgt := 16) g dX9_ahead_11 (by decide) ?_ ?_
    · refine qv_aload_n (pc := 16) g dX9_ahead_16 rfl rfl ?_
      have h1 : qv_is _ T 7 2 (qv_rf T t 10) := ht.to 10 (by decide) (by decide) rfl
      refine qv_getr (pc := 17) g fw_RX9_77 ht (by decide) (by decide) rfl dX9_ahead_17 ?_
      refine qv_aload_n (pc := 20) g dX9_ahead_20 rfl rfl ?_
      have h2 : qv_is _ T 0 3 (qv_rf T t 0) := ht.to 0 (by decide) (by decide) rfl
      refine qv_getr (pc := 21) g fw_RX9_12 ht (by decide) (by decide) rfl dX9_ahead_21 ?_
      have h3 : qv_is _ T 37 4 (qv_rf T (qv_rf T t 0) 0) := h2.to 0 (by decide) (by decide) rfl
      refine qv_getr (pc := 24) g fw_RX9_94 h2 (by decide) (by decide) rfl dX9_ahead_24 ?_
      refine qv_iload_n (pc := 27) g dX9_ahead_27 rfl rfl ?_
      refine qv_aald (pc := 28) g (by decide) h3 (fun _ _ => ⟨_, rfl⟩) dX9_ahead_28 (fun z3 => ?_)
      have h4 : qv_is _ T 7 2 (qv_rf T (qv_rf T (qv_rf T t 0) 0) p1.toNatClampNeg) := h3.to _ (by decide) (qv_inb_lt z3) rfl
      refine qv_aV (qv_cv (pc := 29) g (c_X7_makeCopy (gl G) X (d + 2) T _ _ M h1 h4) (qv_R hRm (by omega) (by decide)) ⟨Nat.zero_le _, Nat.zero_le _⟩ mw_X7_makeCopy lk_RX9_108 im_X7_makeCopy se_X7_makeCopy (by decide) rfl h1 pd_X7_makeCopy rfl (Nat.le_of_ble_eq_true rfl) dX9_ahead_29) (fun M4 => ?_)
      refine qv_aload_n (pc := 32) g dX9_ahead_32 rfl rfl ?_
      refine qv_getr (pc := 33) g fw_RX9_77 ht (by decide) (by decide) rfl dX9_ahead_33 ?_
      refine qv_iload_n (pc := 36) g dX9_ahead_36 rfl rfl ?_
      refine qv_aV (qv_cv (pc := 37) g (c_X7_applyAhead (gl G) X d T _ _ M4 h1) (qv_R hRm (by omega) (by decide)) ⟨Nat.zero_le _, Nat.zero_le _⟩ mw_X7_applyAhead lk_RX9_120 im_X7_applyAhead se_X7_applyAhead (by decide) rfl h1 pd_X7_applyAhead rfl (Nat.le_of_ble_eq_true rfl) dX9_ahead_37) (fun M5 => ?_)
      refine qv_aload_n (pc := 40) g dX9_ahead_40 rfl rfl ?_
      refine qv_iload_n (pc := 41) g dX9_ahead_41 rfl rfl ?_
      refine qv_aIM (qv_cv (pc := 42) g (c_X9_settleRegister (gl G) X (d + 1) T _ _ M5 ht) (qv_R hRm (by omega) (by decide)) ⟨Nat.zero_le _, Nat.zero_le _⟩ mw_X9_settleRegister lk_RX9_116 im_X9_settleRegister se_X9_settleRegister (by decide) rfl ht pd_X9_settleRegister rfl (Nat.le_of_ble_eq_true rfl) dX9_ahead_42) (fun v6 M7 => ?_)
      exact qv_iret (pc := 45) g hr rfl dX9_ahead_45
    · refine qv_iconst (v := (-1)) (pc := 14) g dX9_ahead_14 (by decide) ?_
      exact qv_iret (pc := 15) g hr rfl dX9_ahead_15

set_option maxHeartbeats 4000000 in
set_option maxRecDepth 100000 in
theorem c_X7_addProduct (l : Launch) (X : qv_X) (d : Nat) (T : List qv_Ent) (t : Nat) (p1 : Int32) (t2 : Nat) (p3 : Int32) (t4 : Nat) (p5 : Int32) (M : qv_Mem) {nt : Nat} (ht : qv_is (nt + 1) T 7 2 t) {nt2 : Nat} (ht2 : qv_is (nt2 + 0) T 21 16 t2) {nt4 : Nat} (ht4 : qv_is (nt4 + 0) T 21 16 t4) : qv_Ok l X yX7_addProduct cX7_addProduct 22 none (d) T M [.ref (X.2.2.2 + t), .int p1, .ref (X.2.2.2 + t2), .int p3, .ref (X.2.2.2 + t4), .int p5] qv_eV (f_X7_addProduct T t p1 t2 p3 t4 p5 M) := by
  refine qv_mk (lv := [(0, .ref (X.2.2.2 + t)), (1, .int p1), (2, .ref (X.2.2.2 + t2)), (3, .int p3), (4, .ref (X.2.2.2 + t4)), (5, .int p5)]) (by decide) (Nat.le_of_ble_eq_true rfl) rfl (fun G hG hRm g hr => ?_)
  have g : qv_ok G X cX7_addProduct RX7 22 := g
  unfold f_X7_addProduct
  refine qv_aload_n (pc := 0) g dX7_addProduct_0 rfl rfl ?_
  refine qv_iload_n (pc := 1) g dX7_addProduct_1 rfl rfl ?_
  refine qv_lald (pc := 2) g ht2 dX7_addProduct_2 (fun v1 => ?_)
  refine qv_lstore (pc := 3) (lv1 := [(6, .long v1), (0, .ref (X.2.2.2 + t)), (1, .int p1), (2, .ref (X.2.2.2 + t2)), (3, .int p3), (4, .ref (X.2.2.2 + t4)), (5, .int p5)]) g dX7_addProduct_3 (by decide) rfl ?_
  refine qv_aload_n (pc := 5) g dX7_addProduct_5 rfl rfl ?_
  refine qv_iload_n (pc := 6) g dX7_addProduct_6 rfl rfl ?_
  refine qv_iconst (v := 1) (pc := 7) g dX7_addProduct_7 (by decide) ?_
  refine qv_iadd (pc := 8) g dX7_addProduct_8 ?_
  refine qv_lald (pc := 9) g ht2 dX7_addProduct_9 (fun v2 => ?_)
  refine qv_lstore (pc := 10) (lv1 := [(8, .long v2), (6, .long v1), (0, .ref (X.2.2.2 + t)), (1, .int p1), (2, .ref (X.2.2.2 + t2)), (3, .int p3), (4, .ref (X.2.2.2 + t4)), (5, .int p5)]) g dX7_addProduct_10 (by decide) rfl ?_
  refine qv_aload_n (pc := 12) g dX7_addProduct_12 rfl rfl ?_
  refine qv_iload_n (pc := 13) g dX7_addProduct_13 rfl rfl ?_
  refine qv_iconst (v := 2) (pc := 14) g dX7_addProduct_14 (by decide) ?_
  refine qv_iadd (pc := 15) g dX7_addProduct_15 ?_
  refine qv_lald (pc := 16) g ht2 dX7_addProduct_16 (fun v3 => ?_)
  refine qv_lstore (pc := 17) (lv1 := [(10, .long v3), (8, .long v2), (6, .long v1), (0, .ref (X.2.2.2 + t)), (1, .int p1), (2, .ref (X.2.2.2 + t2)), (3, .int p3), (4, .ref (X.2.2.2 + t4)), (5, .int p5)]) g dX7_addProduct_17 (by decide) rfl ?_
  refine qv_aload_n (pc := 19) g dX7_addProduct_19 rfl rfl ?_
  refine qv_iload_n (pc := 20) g dX7_addProduct_20 rfl rfl ?_
  refine qv_iconst (v := 3) (pc := 21) g dX7_addProduct_21 (by decide) ?_
  refine qv_iadd (pc := 22) g dX7_addProduct_22 ?_
  refine qv_lald (pc := 23) g ht2 dX7_addProduct_23 (fun v4 => ?_)
  refine qv_lstore (pc := 24) (lv1 := [(12, .long v4), (10, .long v3), (8, .long v2), (6, .long v1), (0, .ref (X.2.2.2 + t)), (1, .int p1), (2, .ref (X.2.2.2 + t2)), (3, .int p3), (4, .ref (X.2.2.2 + t4)), (5, .int p5)]) g dX7_addProduct_24 (by decide) rfl ?_
  refine qv_aload (pc := 26) g dX7_addProduct_26 rfl ?_
  refine qv_iload (pc := 28) g dX7_addProduct_28 rfl ?_
  refine qv_lald (pc := 30) g ht4 dX7_addProduct_30 (fun v5 => ?_)
  refine qv_lstore (pc := 31) (lv1 := [(14, .long v5), (12, .long v4), (10, .long v3), (8, .long v2), (6, .long v1), (0, .ref (X.2.2.2 + t)), (1, .int p1), (2, .ref (X.2.2.2 + t2)), (3, .int p3), (4, .ref (X.2.2.2 + t4)), (5, .int p5)]) g dX7_addProduct_31 (by decide) rfl ?_
  refine qv_aload (pc := 33) g dX7_addProduct_33 rfl ?_
  refine qv_iload (pc := 35) g dX7_addProduct_35 rfl ?_
  refine qv_iconst (v := 1) (pc := 37) g dX7_addProduct_37 (by decide) ?_
  refine qv_iadd (pc := 38) g dX7_addProduct_38 ?_
  refine qv_lald (pc := 39) g ht4 dX7_addProduct_39 (fun v6 => ?_)
  refine qv_lstore (pc := 40) (lv1 := [(16, .long v6), (14, .long v5), (12, .long v4), (10, .long v3), (8, .long v2), (6, .long v1), (0, .ref (X.2.2.2 + t)), (1, .int p1), (2, .ref (X.2.2.2 + t2)), (3, .int p3), (4, .ref (X.2.2.2 + t4)), (5, .int p5)]) g dX7_addProduct_40 (by decide) rfl ?_
  refine qv_aload (pc := 42) g dX7_addProduct_42 rfl ?_
  refine qv_iload (pc := 44) g dX7_addProduct_44 rfl ?_
  refine qv_iconst (v := 2) (pc := 46) g dX7_addProduct_46 (by decide) ?_
  refine qv_iadd (pc := 47) g dX7_addProduct_47 ?_
  refine qv_lald (pc := 48) g ht4 dX7_addProduct_48 (fun v7 => ?_)
  refine qv_lstore (pc := 49) (lv1 := [(18, .long v7), (16, .long v6), (14, .long v5), (12, .long v4), (10, .long v3), (8, .long v2), (6, .long v1), (0, .ref (X.2.2.2 + t)), (1, .int p1), (2, .ref (X.2.2.2 + t2)), (3, .int p3), (4, .ref (X.2.2.2 + t4)), (5, .int p5)]) g dX7_addProduct_49 (by decide) rfl ?_
  refine qv_aload (pc := 51) g dX7_addProduct_51 rfl ?_
  refine qv_iload (pc := 53) g dX7_addProduct_53 rfl ?_
  refine qv_iconst (v := 3) (pc := 55) g dX7_addProduct_55 (by decide) ?_
  refine qv_iadd (pc := 56) g dX7_addProduct_56 ?_
  refine qv_lald (pc := 57) g ht4 dX7_addProduct_57 (fun v8 => ?_)
  refine qv_lstore (pc := 58) (lv1 := [(20, .long v8), (18, .long v7), (16, .long v6), (14, .long v5), (12, .long v4), (10, .long v3), (8, .long v2), (6, .long v1), (0, .ref (X.2.2.2 + t)), (1, .int p1), (2, .ref (X.2.2.2 + t2)), (3, .int p3), (4, .ref (X.2.2.2 + t4)), (5, .int p5)]) g dX7_addProduct_58 (by decide) rfl ?_
  refine qv_aload_n (pc := 60) g dX7_addProduct_60 rfl rfl ?_
  have h1 : qv_is _ T 21 16 (qv_rf T t 0) := ht.to 0 (by decide) (by decide) rfl
  refine qv_getr (pc := 61) g fw_RX7_11 ht (by decide) (by decide) rfl dX7_addProduct_61 ?_
  refine qv_iload_n (pc := 64) g dX7_addProduct_64 rfl rfl ?_
  refine qv_dup2 (pc := 65) g dX7_addProduct_65 rfl rfl ?_
  refine qv_lald (pc := 66) g h1 dX7_addProduct_66 (fun v9 => ?_)
  refine qv_lload (pc := 67) g dX7_addProduct_67 rfl ?_
  refine qv_lload (pc := 69) g dX7_addProduct_69 rfl ?_
  refine qv_lmul (pc := 71) g dX7_addProduct_71 ?_
  refine qv_lload (pc := 72) g dX7_addProduct_72 rfl ?_
  refine qv_lload (pc := 74) g dX7_addProduct_74 rfl ?_
  refine qv_lmul (pc := 76) g dX7_addProduct_76 ?_
  refine qv_lsub (pc := 77) g dX7_addProduct_77 ?_
  refine qv_lload (pc := 78) g dX7_addProduct_78 rfl ?_
  refine qv_lload (pc := 80) g dX7_addProduct_80 rfl ?_
  refine qv_lmul (pc := 82) g dX7_addProduct_82 ?_
  refine qv_lsub (pc := 83) g dX7_addProduct_83 ?_
  refine qv_lload (pc := 84) g dX7_addProduct_84 rfl ?_
  refine qv_lload (pc := 86) g dX7_addProduct_86 rfl ?_
  refine qv_lmul (pc := 88) g dX7_addProduct_88 ?_
  refine qv_lsub (pc := 89) g dX7_addProduct_89 ?_
  refine qv_ladd (pc := 90) g dX7_addProduct_90 ?_
  refine qv_last (pc := 91) g h1 dX7_addProduct_91 (fun M10 => ?_)
  refine qv_aload_n (pc := 92) g dX7_addProduct_92 rfl rfl ?_
  refine qv_getr (pc := 93) g fw_RX7_11 ht (by decide) (by decide) rfl dX7_addProduct_93 ?_
  refine qv_iload_n (pc := 96) g dX7_addProduct_96 rfl rfl ?_
  refine qv_iconst (v := 1) (pc := 97) g dX7_addProduct_97 (by decide) ?_
  refine qv_iadd (pc := 98) g dX7_addProduct_98 ?_
  refine qv_dup2 (pc := 99) g dX7_addProduct_99 rfl rfl ?_
  refine qv_lald (pc := 100) g h1 dX7_addProduct_100 (fun v11 => ?_)
  refine qv_lload (pc := 101) g dX7_addProduct_101 rfl ?_
  refine qv_lload (pc := 103) g dX7_addProduct_103 rfl ?_
  refine qv_lmul (pc := 105) g dX7_addProduct_105 ?_
  refine qv_lload (pc := 106) g dX7_addProduct_106 rfl ?_
  refine qv_lload (pc := 108) g dX7_addProduct_108 rfl ?_
  refine qv_lmul (pc := 110) g dX7_addProduct_110 ?_
  refine qv_ladd (pc := 111) g dX7_addProduct_111 ?_
  refine qv_lload (pc := 112) g dX7_addProduct_112 rfl ?_
  refine qv_lload (pc := 114) g dX7_addProduct_114 rfl ?_
  refine qv_lmul (pc := 116) g dX7_addProduct_116 ?_
  refine qv_lsub (pc := 117) g dX7_addProduct_117 ?_
  refine qv_lload (pc := 118) g dX7_addProduct_118 rfl ?_
  refine qv_lload (pc := 120) g dX7_addProduct_120 rfl ?_
  refine qv_lmul (pc := 122) g dX7_addProduct_122 ?_
  refine qv_lsub (pc := 123) g dX7_addProduct_123 ?_
  refine qv_ladd (pc := 124) g dX7_addProduct_124 ?_
  refine qv_last (pc := 125) g h1 dX7_addProduct_125 (fun M12 => ?_)
  refine qv_aload_n (pc := 126) g dX7_addProduct_126 rfl rfl ?_
  refine qv_getr (pc := 127) g fw_RX7_11 ht (by decide) (by decide) rfl dX7_addProduct_127 ?_
  refine qv_iload_n (pc := 130) g dX7_addProduct_130 rfl rfl ?_
  refine qv_iconst (v := 2) (pc := 131) g dX7_addProduct_131 (by decide) ?_
  refine qv_iadd (pc := 132) g dX7_addProduct_132 ?_
  refine qv_dup2 (pc := 133) g dX7_addProduct_133 rfl rfl ?_
  refine qv_lald (pc := 134) g h1 dX7_addProduct_134 (fun v13 => ?_)
  refine qv_lload (pc := 135) g dX7_addProduct_135 rfl ?_
  refine qv_lload (pc := 137) g dX7_addProduct_137 rfl ?_
  refine qv_lmul (pc := 139) g dX7_addProduct_139 ?_
  refine qv_lload (pc := 140) g dX7_addProduct_140 rfl ?_
  refine qv_lload (pc := 142) g dX7_addProduct_142 rfl ?_
  refine qv_lmul (pc := 144) g dX7_addProduct_144 ?_
  refine qv_ladd (pc := 145) g dX7_addProduct_145 ?_
  refine qv_lload (pc := 146) g dX7_addProduct_146 rfl ?_
  refine qv_lload (pc := 148) g dX7_addProduct_148 rfl ?_
  refine qv_lmul (pc := 150) g dX7_addProduct_150 ?_
  refine qv_ladd (pc := 151) g dX7_addProduct_151 ?_
  refine qv_lload (pc := 152) g dX7_addProduct_152 rfl ?_
  refine qv_lload (pc := 154) g dX7_addProduct_154 rfl ?_
  refine qv_lmul (pc := 156) g dX7_addProduct_156 ?_
  refine qv_lsub (pc := 157) g dX7_addProduct_157 ?_
  refine qv_ladd (pc := 158) g dX7_addProduct_158 ?_
  refine qv_last (pc := 159) g h1 dX7_addProduct_159 (fun M14 => ?_)
  refine qv_aload_n (pc := 160) g dX7_addProduct_160 rfl rfl ?_
  refine qv_getr (pc := 161) g fw_RX7_11 ht (by decide) (by decide) rfl dX7_addProduct_161 ?_
  refine qv_iload_n (pc := 164) g dX7_addProduct_164 rfl rfl ?_
  refine qv_iconst (v := 3) (pc := 165) g dX7_addProduct_165 (by decide) ?_
  refine qv_iadd (pc := 166) g dX7_addProduct_166 ?_
  refine qv_dup2 (pc := 167) g dX7_addProduct_167 rfl rfl ?_
  refine qv_lald (pc := 168) g h1 dX7_addProduct_168 (fun v15 => ?_)
  refine qv_lload (pc := 169) g dX7_addProduct_169 rfl ?_
  refine qv_lload (pc := 171) g dX7_addProduct_171 rfl ?_
  refine qv_lmul (pc := 173) g dX7_addProduct_173 ?_
  refine qv_lload (pc := 174) g dX7_addProduct_174 rfl ?_
  refine qv_lload (pc := 176) g dX7_addProduct_176 rfl ?_
  refine qv_lmul (pc := 178) g dX7_addProduct_178 ?_
  refine qv_ladd (pc := 179) g dX7_addProduct_179 ?_
  refine qv_lload (pc := 180) g dX7_addProduct_180 rfl ?_
  refine qv_lload (pc := 182) g dX7_addProduct_182 rfl ?_
  refine qv_lmul (pc := 184) g dX7_addProduct_184 ?_
  refine qv_ladd (pc := 185) g dX7_addProduct_185 ?_
  refine qv_lload (pc := 186) g dX7_addProduct_186 rfl ?_
  refine qv_lload (pc := 188) g dX7_addProduct_188 rfl ?_
  refine qv_lmul (pc := 190) g dX7_addProduct_190 ?_
  refine qv_ladd (pc := 191) g dX7_addProduct_191 ?_
  refine qv_ladd (pc := 192) g dX7_addProduct_192 ?_
  refine qv_last (pc := 193) g h1 dX7_addProduct_193 (fun M16 => ?_)
  exact qv_vret (pc := 194) g hr rfl dX7_addProduct_194

set_option maxHeartbeats 4000000 in
set_option maxRecDepth 100000 in
theorem c_X7_makeProduct (l : Launch) (X : qv_X) (d : Nat) (T : List qv_Ent) (t : Nat) (t1 : Nat) (t2 : Nat) (M : qv_Mem) {nt : Nat} (ht : qv_is (nt + 1) T 7 2 t) {nt1 : Nat} (ht1 : qv_is (nt1 + 1) T 7 2 t1) {nt2 : Nat} (ht2 : qv_is (nt2 + 1) T 7 2 t2) : qv_Ok l X yX7_makeProduct cX7_makeProduct 6 none (d + 1) T M [.ref (X.2.2.2 + t), .ref (X.2.2.2 + t1), .ref (X.2.2.2 + t2)] qv_eV (f_X7_makeProduct T t t1 t2 M) := by
  refine qv_mk (lv := [(0, .ref (X.2.2.2 + t)), (1, .ref (X.2.2.2 + t1)), (2, .ref (X.2.2.2 + t2))]) (by decide) (Nat.le_of_ble_eq_true rfl) rfl (fun G hG hRm g hr => ?_)
  have g : qv_ok G X cX7_makeProduct RX7 6 := g
  unfold f_X7_makeProduct
  refine qv_aload_n (pc := 0) g dX7_makeProduct_0 rfl rfl ?_
  refine qv_aV (qv_cv (pc := 1) g (c_X7_clearParts (gl G) X d T _ M ht) (qv_R hRm (by omega) (by decide)) ⟨Nat.zero_le _, Nat.zero_le _⟩ mw_X7_clearParts lk_RX7_22 im_X7_clearParts se_X7_clearParts (by decide) rfl ht pd_X7_clearParts rfl (Nat.le_of_ble_eq_true rfl) dX7_makeProduct_1) (fun M1 => ?_)
  refine qv_iconst (v := 0) (pc := 4) g dX7_makeProduct_4 (by decide) ?_
  refine qv_istore_n (pc := 5) (lv1 := [(3, .int 0), (0, .ref (X.2.2.2 + t)), (1, .ref (X.2.2.2 + t1)), (2, .ref (X.2.2.2 + t2))]) g dX7_makeProduct_5 rfl (by decide) rfl ?_
  refine qv_join (fun (k3 : qv_Mem → Option qv_Mem) => ∀ (M2 : qv_Mem), qv_V G X 6 (qv_QM G X T qv_eV (0, 0)) T (0, 0) 90 [(0, .ref (X.2.2.2 + t)), (1, .ref (X.2.2.2 + t1)), (2, .ref (X.2.2.2 + t2))] [] M2 (k3 M2)) (fun M2 => ?_) (fun k3 qk3 => ?_)
  · refine qv_aload_n (pc := 90) g dX7_makeProduct_90 rfl rfl ?_
    refine qv_aload_n (pc := 91) g dX7_makeProduct_91 rfl rfl ?_
    refine qv_gets (pc := 92) g fw_RX7_15 ht1 (by decide) (by decide) rfl dX7_makeProduct_92 (fun v4 => ?_)
    refine qv_aload_n (pc := 95) g dX7_makeProduct_95 rfl rfl ?_
    refine qv_gets (pc := 96) g fw_RX7_15 ht2 (by decide) (by decide) rfl dX7_makeProduct_96 (fun v5 => ?_)
    refine qv_iadd (pc := 99) g dX7_makeProduct_99 ?_
    refine qv_puti (pc := 100) g pw_RX7_15 ht (by decide) (by decide) rfl dX7_makeProduct_100 (fun M6 => ?_)
    exact qv_vret (pc := 103) g hr rfl dX7_makeProduct_103
  refine qv_lv [1, 2, 3, 0] rfl ?_
  exact qv_L2 (Vh := fun (v7 : Int32) (M8 : qv_Mem) o => qv_V G X 6 (qv_QM G X T qv_eV (0, 0)) T (0, 0) 6 [(0, .ref (X.2.2.2 + t)), (1, .ref (X.2.2.2 + t1)), (2, .ref (X.2.2.2 + t2)), (3, .int v7)] [] M8 o) (fun _ _ => qv_none) (fun r9 qr9 v7 M8 => by
    unfold b_X7_makeProduct_6
    refine qv_iload_n (pc := 6) g dX7_makeProduct_6 rfl rfl ?_
    refine qv_iconst (v := 2) (pc := 7) g dX7_makeProduct_7 (by decide) ?_
    refine qv_icmp_ge (pc := 8) (tgt := 90) g dX7_makeProduct_8 (by decide) ?_ ?_
    · refine qv_lv [0, 1, 2] rfl ?_
      exact qk3 _
    · refine qv_iconst (v := 0) (pc := 11) g dX7_makeProduct_11 (by decide) ?_
      refine qv_istore (pc := 12) (lv1 := [(4, .int 0), (0, .ref (X.2.2.2 + t)), (1, .ref (X.2.2.2 + t1)), (2, .ref (X.2.2.2 + t2)), (3, .int v7)]) g dX7_makeProduct_12 (by decide) rfl ?_
      refine qv_join (fun (k11 : qv_Mem → Option qv_Mem) => ∀ (M10 : qv_Mem), qv_V G X 6 (qv_QM G X T qv_eV (0, 0)) T (0, 0) 84 [(0, .ref (X.2.2.2 + t)), (1, .ref (X.2.2.2 + t1)), (2, .ref (X.2.2.2 + t2)), (3, .int v7)] [] M10 (k11 M10)) (fun M10 => ?_) (fun k11 qk11 => ?_)
      · refine qv_iinc (pc := 84) (v := (v7 + 1)) (lv1 := [(3, .int (v7 + 1)), (0, .ref (X.2.2.2 + t)), (1, .ref (X.2.2.2 + t1)), (2, .ref (X.2.2.2 + t2))]) g dX7_makeProduct_84 rfl rfl (by decide) rfl ?_
        refine qv_goto (pc := 87) (tgt := 6) g dX7_makeProduct_87 (by decide) ?_
        refine qv_lv [1, 2, 3, 0] rfl ?_
        exact qr9 _ _
      refine qv_lv [1, 2, 3, 4, 0] rfl ?_
      exact qv_L2 (Vh := fun (v12 : Int32) (M13 : qv_Mem) o => qv_V G X 6 (qv_QM G X T qv_eV (0, 0)) T (0, 0) 14 [(0, .ref (X.2.2.2 + t)), (1, .ref (X.2.2.2 + t1)), (2, .ref (X.2.2.2 + t2)), (3, .int v7), (4, .int v12)] [] M13 o) (fun _ _ => qv_none) (fun r14 qr14 v12 M13 => by
        unfold b_X7_makeProduct_14
        refine qv_iload (pc := 14) g dX7_makeProduct_14 rfl ?_
        refine qv_iconst (v := 2) (pc := 16) g dX7_makeProduct_16 (by decide) ?_
        refine qv_icmp_ge (pc := 17) (tgt := 84) g dX7_makeProduct_17 (by decide) ?_ ?_
        · refine qv_lv [0, 1, 2, 3] rfl ?_
          exact qk11 _
        · refine qv_iload_n (pc := 20) g dX7_makeProduct_20 rfl rfl ?_
          refine qv_iload (pc := 21) g dX7_makeProduct_21 rfl ?_
          refine qv_aI rfl (qv_cs (pc := 23) g (c_X7_placeOf (gl G) X d T _ _ M13) (qv_R hRm (by omega) (by decide)) ⟨Nat.zero_le _, Nat.zero_le _⟩ mw_X7_placeOf lk_RX7_25 st_X7_placeOf pd_X7_placeOf rfl (Nat.le_of_ble_eq_true rfl) dX7_makeProduct_23) (fun v15 => ?_)
          refine qv_istore (pc := 26) (lv1 := [(5, .int v15), (0, .ref (X.2.2.2 + t)), (1, .ref (X.2.2.2 + t1)), (2, .ref (X.2.2.2 + t2)), (3, .int v7), (4, .int v12)]) g dX7_makeProduct_26 (by decide) rfl ?_
          refine qv_aload_n (pc := 28) g dX7_makeProduct_28 rfl rfl ?_
          refine qv_iload (pc := 29) g dX7_makeProduct_29 rfl ?_
          refine qv_aload_n (pc := 31) g dX7_makeProduct_31 rfl rfl ?_
          have h1 : qv_is _ T 21 16 (qv_rf T t1 0) := ht1.to 0 (by decide) (by decide) rfl
          refine qv_getr (pc := 32) g fw_RX7_11 ht1 (by decide) (by decide) rfl dX7_makeProduct_32 ?_
          refine qv_iload_n (pc := 35) g dX7_makeProduct_35 rfl rfl ?_
          refine qv_iconst (v := 0) (pc := 36) g dX7_makeProduct_36 (by decide) ?_
          refine qv_aI rfl (qv_cs (pc := 37) g (c_X7_placeOf (gl G) X d T _ _ M13) (qv_R hRm (by omega) (by decide)) ⟨Nat.zero_le _, Nat.zero_le _⟩ mw_X7_placeOf lk_RX7_25 st_X7_placeOf pd_X7_placeOf rfl (Nat.le_of_ble_eq_true rfl) dX7_makeProduct_37) (fun v16 => ?_)
          refine qv_aload_n (pc := 40) g dX7_makeProduct_40 rfl rfl ?_
          have h2 : qv_is _ T 21 16 (qv_rf T t2 0) := ht2.to 0 (by decide) (by decide) rfl
          refine qv_getr (pc := 41) g fw_RX7_11 ht2 (by decide) (by decide) rfl dX7_makeProduct_41 ?_
          refine qv_iconst (v := 0) (pc := 44) g dX7_makeProduct_44 (by decide) ?_
          refine qv_iload (pc := 45) g dX7_makeProduct_45 rfl ?_
          refine qv_aI rfl (qv_cs (pc := 47) g (c_X7_placeOf (gl G) X d T _ _ M13) (qv_R hRm (by omega) (by decide)) ⟨Nat.zero_le _, Nat.zero_le _⟩ mw_X7_placeOf lk_RX7_25 st_X7_placeOf pd_X7_placeOf rfl (Nat.le_of_ble_eq_true rfl) dX7_makeProduct_47) (fun v17 => ?_)
          refine qv_aV (qv_cv (pc := 50) g (c_X7_addProduct (gl G) X d T _ _ _ _ _ _ M13 ht h1 h2) (qv_R hRm (by omega) (by decide)) ⟨Nat.zero_le _, Nat.zero_le _⟩ mw_X7_addProduct lk_RX7_35 im_X7_addProduct se_X7_addProduct (by decide) rfl ht pd_X7_addProduct rfl (Nat.le_of_ble_eq_true rfl) dX7_makeProduct_50) (fun M18 => ?_)
          refine qv_aload_n (pc := 53) g dX7_makeProduct_53 rfl rfl ?_
          refine qv_iload (pc := 54) g dX7_makeProduct_54 rfl ?_
          refine qv_aload_n (pc := 56) g dX7_makeProduct_56 rfl rfl ?_
          refine qv_getr (pc := 57) g fw_RX7_11 ht1 (by decide) (by decide) rfl dX7_makeProduct_57 ?_
          refine qv_iload_n (pc := 60) g dX7_makeProduct_60 rfl rfl ?_
          refine qv_iconst (v := 1) (pc := 61) g dX7_makeProduct_61 (by decide) ?_
          refine qv_aI rfl (qv_cs (pc := 62) g (c_X7_placeOf (gl G) X d T _ _ M18) (qv_R hRm (by omega) (by decide)) ⟨Nat.zero_le _, Nat.zero_le _⟩ mw_X7_placeOf lk_RX7_25 st_X7_placeOf pd_X7_placeOf rfl (Nat.le_of_ble_eq_true rfl) dX7_makeProduct_62) (fun v19 => ?_)
          refine qv_aload_n (pc := 65) g dX7_makeProduct_65 rfl rfl ?_
          refine qv_getr (pc := 66) g fw_RX7_11 ht2 (by decide) (by decide) rfl dX7_makeProduct_66 ?_
          refine qv_iconst (v := 1) (pc := 69) g dX7_makeProduct_69 (by decide) ?_
          refine qv_iload (pc := 70) g dX7_makeProduct_70 rfl ?_
          refine qv_aI rfl (qv_cs (pc := 72) g (c_X7_placeOf (gl G) X d T _ _ M18) (qv_R hRm (by omega) (by decide)) ⟨Nat.zero_le _, Nat.zero_le _⟩ mw_X7_placeOf lk_RX7_25 st_X7_placeOf pd_X7_placeOf rfl (Nat.le_of_ble_eq_true rfl) dX7_makeProduct_72) (fun v20 => ?_)
          refine qv_aV (qv_cv (pc := 75) g (c_X7_addProduct (gl G) X d T _ _ _ _ _ _ M18 ht h1 h2) (qv_R hRm (by omega) (by decide)) ⟨Nat.zero_le _, Nat.zero_le _⟩ mw_X7_addProduct lk_RX7_35 im_X7_addProduct se_X7_addProduct (by decide) rfl ht pd_X7_addProduct rfl (Nat.le_of_ble_eq_true rfl) dX7_makeProduct_75) (fun M21 => ?_)
          refine qv_iinc (pc := 78) (v := (v12 + 1)) (lv1 := [(4, .int (v12 + 1)), (5, .int v15), (0, .ref (X.2.2.2 + t)), (1, .ref (X.2.2.2 + t1)), (2, .ref (X.2.2.2 + t2)), (3, .int v7)]) g dX7_makeProduct_78 rfl rfl (by decide) rfl ?_
          refine qv_goto (pc := 81) (tgt := 14) g dX7_makeProduct_81 (by decide) ?_
          refine qv_lv [2, 3, 4, 5, 0] rfl ?_
          exact qr14 _ _) _ _ _) _ _ _

set_option maxHeartbeats 4000000 in
set_option maxRecDepth 100000 in
theorem c_X9_times (l : Launch) (X : qv_X) (d : Nat) (T : List qv_Ent) (t : Nat) (p1 : Int32) (p2 : Int32) (p3 : Int32) (M : qv_Mem) {nt : Nat} (ht : qv_is (nt + 4) T 9 14 t) : qv_Ok l X yX9_times cX9_times 4 (some .int) (d + 2) T M [.ref (X.2.2.2 + t), .int p1, .int p2, .int p3] qv_eIM (f_X9_times T t p1 p2 p3 M) := by
  refine qv_mk (lv := [(0, .ref (X.2.2.2 + t)), (1, .int p1), (2, .int p2), (3, .int p3)]) (by decide) (Nat.le_of_ble_eq_true rfl) rfl (fun G hG hRm g hr => ?_)
  have g : qv_ok G X cX9_times RX9 4 := g
  unfold f_X9_times
  refine qv_iload_n (pc := 0) g dX9_times_0 rfl rfl ?_
  refine qv_aI rfl (qv_cs (pc := 1) g (c_X9_isRegister (gl G) X d T _ M) (qv_R hRm (by omega) (by decide)) ⟨Nat.zero_le _, Nat.zero_le _⟩ mw_X9_isRegister lk_RX9_90 st_X9_isRegister pd_X9_isRegister rfl (Nat.le_of_ble_eq_true rfl) dX9_times_1) (fun v1 => ?_)
  refine qv_if_eq (pc := 4) (tgt := 21) g dX9_times_4 (by decide) ?_ ?_
  · refine qv_iconst (v := (-1)) (pc := 21) g dX9_times_21 (by decide) ?_
    exact qv_iret (pc := 22) g hr rfl dX9_times_22
  · refine qv_iload_n (pc := 7) g dX9_times_7 rfl rfl ?_
    refine qv_aI rfl (qv_cs (pc := 8) g (c_X9_isRegister (gl G) X d T _ M) (qv_R hRm (by omega) (by decide)) ⟨Nat.zero_le _, Nat.zero_le _⟩ mw_X9_isRegister lk_RX9_90 st_X9_isRegister pd_X9_isRegister rfl (Nat.le_of_ble_eq_true rfl) dX9_times_8) (fun v2 => ?_)
    refine qv_if_eq (pc := 11) (tgt := 21) g dX9_times_11 (by decide) ?_ ?_
    · refine qv_iconst (v := (-1)) (pc := 21) g dX9_times_21 (by decide) ?_
      exact qv_iret (pc := 22) g hr rfl dX9_times_22
    · refine qv_iload_n (pc := 14) g dX9_times_14 rfl rfl ?_
      refine qv_aI rfl (qv_cs (pc := 15) g (c_X9_isRegister (gl G) X d T _ M) (qv_R hRm (by omega) (by decide)) ⟨Nat.zero_le _, Nat.zero_le _⟩ mw_X9_isRegister lk_RX9_90 st_X9_isRegister pd_X9_isRegister rfl (Nat.le_of_ble_eq_true rfl) dX9_times_15) (fun v3 => ?_)
      refine qv_if_ne (pc := 18) (tgt := 23) g dX9_times_18 (by decide) ?_ ?_
      · refine qv_aload_n (pc := 23) g dX9_times_23 rfl rfl ?_
        have h1 : qv_is _ T 7 2 (qv_rf T t 10) := ht.to 10 (by decide) (by decide) rfl
        refine qv_getr (pc := 24) g fw_RX9_77 ht (by decide) (by decide) rfl dX9_times_24 ?_
        refine qv_aload_n (pc := 27) g dX9_times_27 rfl rfl ?_
        have h2 : qv_is _ T 0 3 (qv_rf T t 0) := ht.to 0 (by decide) (by decide) rfl
        refine qv_getr (pc := 28) g fw_RX9_12 ht (by decide) (by decide) rfl dX9_times_28 ?_
        have h3 : qv_is _ T 37 4 (qv_rf T (qv_rf T t 0) 0) := h2.to 0 (by decide) (by decide) rfl
        refine qv_getr (pc := 31) g fw_RX9_94 h2 (by decide) (by decide) rfl dX9_times_31 ?_
        refine qv_iload_n (pc := 34) g dX9_times_34 rfl rfl ?_
        refine qv_aald (pc := 35) g (by decide) h3 (fun _ _ => ⟨_, rfl⟩) dX9_times_35 (fun z4 => ?_)
        have h4 : qv_is _ T 7 2 (qv_rf T (qv_rf T (qv_rf T t 0) 0) p2.toNatClampNeg) := h3.to _ (by decide) (qv_inb_lt z4) rfl
        refine qv_aload_n (pc := 36) g dX9_times_36 rfl rfl ?_
        refine qv_getr (pc := 37) g fw_RX9_12 ht (by decide) (by decide) rfl dX9_times_37 ?_
        refine qv_getr (pc := 40) g fw_RX9_94 h2 (by decide) (by decide) rfl dX9_times_40 ?_
        refine qv_iload_n (pc := 43) g dX9_times_43 rfl rfl ?_
        refine qv_aald (pc := 44) g (by decide) h3 (fun _ _ => ⟨_, rfl⟩) dX9_times_44 (fun z5 => ?_)
        have h5 : qv_is _ T 7 2 (qv_rf T (qv_rf T (qv_rf T t 0) 0) p3.toNatClampNeg) := h3.to _ (by decide) (qv_inb_lt z5) rfl
        refine qv_aV (qv_cv (pc := 45) g (c_X7_makeProduct (gl G) X d T _ _ _ M h1 h4 h5) (qv_R hRm (by omega) (by decide)) ⟨Nat.zero_le _, Nat.zero_le _⟩ mw_X7_makeProduct lk_RX9_123 im_X7_makeProduct se_X7_makeProduct (by decide) rfl h1 pd_X7_makeProduct rfl (Nat.le_of_ble_eq_true rfl) dX9_times_45) (fun M6 => ?_)
        refine qv_aload_n (pc := 48) g dX9_times_48 rfl rfl ?_
        refine qv_getr (pc := 49) g fw_RX9_77 ht (by decide) (by decide) rfl dX9_times_49 ?_
        refine qv_aV (qv_cv (pc := 52) g (c_X7_lower (gl G) X d T _ M6 h1) (qv_R hRm (by omega) (by decide)) ⟨Nat.zero_le _, Nat.zero_le _⟩ mw_X7_lower lk_RX9_127 im_X7_lower se_X7_lower (by decide) rfl h1 pd_X7_lower rfl (Nat.le_of_ble_eq_true rfl) dX9_times_52) (fun M7 => ?_)
        refine qv_aload_n (pc := 55) g dX9_times_55 rfl rfl ?_
        refine qv_iload_n (pc := 56) g dX9_times_56 rfl rfl ?_
        refine qv_aIM (qv_cv (pc := 57) g (c_X9_settleRegister (gl G) X d T _ _ M7 ht) (qv_R hRm (by omega) (by decide)) ⟨Nat.zero_le _, Nat.zero_le _⟩ mw_X9_settleRegister lk_RX9_116 im_X9_settleRegister se_X9_settleRegister (by decide) rfl ht pd_X9_settleRegister rfl (Nat.le_of_ble_eq_true rfl) dX9_times_57) (fun v8 M9 => ?_)
        exact qv_iret (pc := 60) g hr rfl dX9_times_60
      · refine qv_iconst (v := (-1)) (pc := 21) g dX9_times_21 (by decide) ?_
        exact qv_iret (pc := 22) g hr rfl dX9_times_22

set_option maxHeartbeats 4000000 in
set_option maxRecDepth 100000 in
theorem c_X7_makeTurned (l : Launch) (X : qv_X) (d : Nat) (T : List qv_Ent) (t : Nat) (t1 : Nat) (M : qv_Mem) {nt : Nat} (ht : qv_is (nt + 1) T 7 2 t) {nt1 : Nat} (ht1 : qv_is (nt1 + 1) T 7 2 t1) : qv_Ok l X yX7_makeTurned cX7_makeTurned 6 none (d + 1) T M [.ref (X.2.2.2 + t), .ref (X.2.2.2 + t1)] qv_eV (f_X7_makeTurned T t t1 M) := by
  refine qv_mk (lv := [(0, .ref (X.2.2.2 + t)), (1, .ref (X.2.2.2 + t1))]) (by decide) (Nat.le_of_ble_eq_true rfl) rfl (fun G hG hRm g hr => ?_)
  have g : qv_ok G X cX7_makeTurned RX7 6 := g
  unfold f_X7_makeTurned
  refine qv_iconst (v := 0) (pc := 0) g dX7_makeTurned_0 (by decide) ?_
  refine qv_istore_n (pc := 1) (lv1 := [(2, .int 0), (0, .ref (X.2.2.2 + t)), (1, .ref (X.2.2.2 + t1))]) g dX7_makeTurned_1 rfl (by decide) rfl ?_
  refine qv_join (fun (k2 : qv_Mem → Option qv_Mem) => ∀ (M1 : qv_Mem), qv_V G X 6 (qv_QM G X T qv_eV (0, 0)) T (0, 0) 111 [(0, .ref (X.2.2.2 + t)), (1, .ref (X.2.2.2 + t1))] [] M1 (k2 M1)) (fun M1 => ?_) (fun k2 qk2 => ?_)
  · refine qv_aload_n (pc := 111) g dX7_makeTurned_111 rfl rfl ?_
    refine qv_aload_n (pc := 112) g dX7_makeTurned_112 rfl rfl ?_
    refine qv_gets (pc := 113) g fw_RX7_15 ht1 (by decide) (by decide) rfl dX7_makeTurned_113 (fun v3 => ?_)
    refine qv_puti (pc := 116) g pw_RX7_15 ht (by decide) (by decide) rfl dX7_makeTurned_116 (fun M4 => ?_)
    exact qv_vret (pc := 119) g hr rfl dX7_makeTurned_119
  refine qv_lv [1, 2, 0] rfl ?_
  exact qv_L2 (Vh := fun (v5 : Int32) (M6 : qv_Mem) o => qv_V G X 6 (qv_QM G X T qv_eV (0, 0)) T (0, 0) 2 [(0, .ref (X.2.2.2 + t)), (1, .ref (X.2.2.2 + t1)), (2, .int v5)] [] M6 o) (fun _ _ => qv_none) (fun r7 qr7 v5 M6 => by
    unfold b_X7_makeTurned_2
    refine qv_iload_n (pc := 2) g dX7_makeTurned_2 rfl rfl ?_
    refine qv_iconst (v := 2) (pc := 3) g dX7_makeTurned_3 (by decide) ?_
    refine qv_icmp_ge (pc := 4) (tgt := 111) g dX7_makeTurned_4 (by decide) ?_ ?_
    · refine qv_lv [0, 1] rfl ?_
      exact qk2 _
    · refine qv_iconst (v := 0) (pc := 7) g dX7_makeTurned_7 (by decide) ?_
      refine qv_istore_n (pc := 8) (lv1 := [(3, .int 0), (0, .ref (X.2.2.2 + t)), (1, .ref (X.2.2.2 + t1)), (2, .int v5)]) g dX7_makeTurned_8 rfl (by decide) rfl ?_
      refine qv_join (fun (k9 : qv_Mem → Option qv_Mem) => ∀ (M8 : qv_Mem), qv_V G X 6 (qv_QM G X T qv_eV (0, 0)) T (0, 0) 105 [(0, .ref (X.2.2.2 + t)), (1, .ref (X.2.2.2 + t1)), (2, .int v5)] [] M8 (k9 M8)) (fun M8 => ?_) (fun k9 qk9 => ?_)
      · refine qv_iinc (pc := 105) (v := (v5 + 1)) (lv1 := [(2, .int (v5 + 1)), (0, .ref (X.2.2.2 + t)), (1, .ref (X.2.2.2 + t1))]) g dX7_makeTurned_105 rfl rfl (by decide) rfl ?_
        refine qv_goto (pc := 108) (tgt := 2) g dX7_makeTurned_108 (by decide) ?_
        refine qv_lv [1, 2, 0] rfl ?_
        exact qr7 _ _
      refine qv_lv [1, 2, 3, 0] rfl ?_
      exact qv_L2 (Vh := fun (v10 : Int32) (M11 : qv_Mem) o => qv_V G X 6 (qv_QM G X T qv_eV (0, 0)) T (0, 0) 9 [(0, .ref (X.2.2.2 + t)), (1, .ref (X.2.2.2 + t1)), (2, .int v5), (3, .int v10)] [] M11 o) (fun _ _ => qv_none) (fun r12 qr12 v10 M11 => by
        unfold b_X7_makeTurned_9
        refine qv_iload_n (pc := 9) g dX7_makeTurned_9 rfl rfl ?_
        refine qv_iconst (v := 2) (pc := 10) g dX7_makeTurned_10 (by decide) ?_
        refine qv_icmp_ge (pc := 11) (tgt := 105) g dX7_makeTurned_11 (by decide) ?_ ?_
        · refine qv_lv [0, 1, 2] rfl ?_
          exact qk9 _
        · refine qv_iload_n (pc := 14) g dX7_makeTurned_14 rfl rfl ?_
          refine qv_iload_n (pc := 15) g dX7_makeTurned_15 rfl rfl ?_
          refine qv_aI rfl (qv_cs (pc := 16) g (c_X7_placeOf (gl G) X d T _ _ M11) (qv_R hRm (by omega) (by decide)) ⟨Nat.zero_le _, Nat.zero_le _⟩ mw_X7_placeOf lk_RX7_25 st_X7_placeOf pd_X7_placeOf rfl (Nat.le_of_ble_eq_true rfl) dX7_makeTurned_16) (fun v13 => ?_)
          refine qv_istore (pc := 19) (lv1 := [(4, .int v13), (0, .ref (X.2.2.2 + t)), (1, .ref (X.2.2.2 + t1)), (2, .int v5), (3, .int v10)]) g dX7_makeTurned_19 (by decide) rfl ?_
          refine qv_iload_n (pc := 21) g dX7_makeTurned_21 rfl rfl ?_
          refine qv_iload_n (pc := 22) g dX7_makeTurned_22 rfl rfl ?_
          refine qv_aI rfl (qv_cs (pc := 23) g (c_X7_placeOf (gl G) X d T _ _ M11) (qv_R hRm (by omega) (by decide)) ⟨Nat.zero_le _, Nat.zero_le _⟩ mw_X7_placeOf lk_RX7_25 st_X7_placeOf pd_X7_placeOf rfl (Nat.le_of_ble_eq_true rfl) dX7_makeTurned_23) (fun v14 => ?_)
          refine qv_istore (pc := 26) (lv1 := [(5, .int v14), (4, .int v13), (0, .ref (X.2.2.2 + t)), (1, .ref (X.2.2.2 + t1)), (2, .int v5), (3, .int v10)]) g dX7_makeTurned_26 (by decide) rfl ?_
          refine qv_aload_n (pc := 28) g dX7_makeTurned_28 rfl rfl ?_
          have h1 : qv_is _ T 21 16 (qv_rf T t 0) := ht.to 0 (by decide) (by decide) rfl
          refine qv_getr (pc := 29) g fw_RX7_11 ht (by decide) (by decide) rfl dX7_makeTurned_29 ?_
          refine qv_iload (pc := 32) g dX7_makeTurned_32 rfl ?_
          refine qv_aload_n (pc := 34) g dX7_makeTurned_34 rfl rfl ?_
          have h2 : qv_is _ T 21 16 (qv_rf T t1 0) := ht1.to 0 (by decide) (by decide) rfl
          refine qv_getr (pc := 35) g fw_RX7_11 ht1 (by decide) (by decide) rfl dX7_makeTurned_35 ?_
          refine qv_iload (pc := 38) g dX7_makeTurned_38 rfl ?_
          refine qv_lald (pc := 40) g h2 dX7_makeTurned_40 (fun v15 => ?_)
          refine qv_last (pc := 41) g h1 dX7_makeTurned_41 (fun M16 => ?_)
          refine qv_aload_n (pc := 42) g dX7_makeTurned_42 rfl rfl ?_
          refine qv_getr (pc := 43) g fw_RX7_11 ht (by decide) (by decide) rfl dX7_makeTurned_43 ?_
          refine qv_iload (pc := 46) g dX7_makeTurned_46 rfl ?_
          refine qv_iconst (v := 1) (pc := 48) g dX7_makeTurned_48 (by decide) ?_
          refine qv_iadd (pc := 49) g dX7_makeTurned_49 ?_
          refine qv_aload_n (pc := 50) g dX7_makeTurned_50 rfl rfl ?_
          refine qv_getr (pc := 51) g fw_RX7_11 ht1 (by decide) (by decide) rfl dX7_makeTurned_51 ?_
          refine qv_iload (pc := 54) g dX7_makeTurned_54 rfl ?_
          refine qv_iconst (v := 3) (pc := 56) g dX7_makeTurned_56 (by decide) ?_
          refine qv_iadd (pc := 57) g dX7_makeTurned_57 ?_
          refine qv_lald (pc := 58) g h2 dX7_makeTurned_58 (fun v17 => ?_)
          refine qv_lneg (pc := 59) g dX7_makeTurned_59 ?_
          refine qv_last (pc := 60) g h1 dX7_makeTurned_60 (fun M18 => ?_)
          refine qv_aload_n (pc := 61) g dX7_makeTurned_61 rfl rfl ?_
          refine qv_getr (pc := 62) g fw_RX7_11 ht (by decide) (by decide) rfl dX7_makeTurned_62 ?_
          refine qv_iload (pc := 65) g dX7_makeTurned_65 rfl ?_
          refine qv_iconst (v := 2) (pc := 67) g dX7_makeTurned_67 (by decide) ?_
          refine qv_iadd (pc := 68) g dX7_makeTurned_68 ?_
          refine qv_aload_n (pc := 69) g dX7_makeTurned_69 rfl rfl ?_
          refine qv_getr (pc := 70) g fw_RX7_11 ht1 (by decide) (by decide) rfl dX7_makeTurned_70 ?_
          refine qv_iload (pc := 73) g dX7_makeTurned_73 rfl ?_
          refine qv_iconst (v := 2) (pc := 75) g dX7_makeTurned_75 (by decide) ?_
          refine qv_iadd (pc := 76) g dX7_makeTurned_76 ?_
          refine qv_lald (pc := 77) g h2 dX7_makeTurned_77 (fun v19 => ?_)
          refine qv_lneg (pc := 78) g dX7_makeTurned_78 ?_
          refine qv_last (pc := 79) g h1 dX7_makeTurned_79 (fun M20 => ?_)
          refine qv_aload_n (pc := 80) g dX7_makeTurned_80 rfl rfl ?_
          refine qv_getr (pc := 81) g fw_RX7_11 ht (by decide) (by decide) rfl dX7_makeTurned_81 ?_
          refine qv_iload (pc := 84) g dX7_makeTurned_84 rfl ?_
          refine qv_iconst (v := 3) (pc := 86) g dX7_makeTurned_86 (by decide) ?_
          refine qv_iadd (pc := 87) g dX7_makeTurned_87 ?_
          refine qv_aload_n (pc := 88) g dX7_makeTurned_88 rfl rfl ?_
          refine qv_getr (pc := 89) g fw_RX7_11 ht1 (by decide) (by decide) rfl dX7_makeTurned_89 ?_
          refine qv_iload (pc := 92) g dX7_makeTurned_92 rfl ?_
          refine qv_iconst (v := 1) (pc := 94) g dX7_makeTurned_94 (by decide) ?_
          refine qv_iadd (pc := 95) g dX7_makeTurned_95 ?_
          refine qv_lald (pc := 96) g h2 dX7_makeTurned_96 (fun v21 => ?_)
          refine qv_lneg (pc := 97) g dX7_makeTurned_97 ?_
          refine qv_last (pc := 98) g h1 dX7_makeTurned_98 (fun M22 => ?_)
          refine qv_iinc (pc := 99) (v := (v10 + 1)) (lv1 := [(3, .int (v10 + 1)), (5, .int v14), (4, .int v13), (0, .ref (X.2.2.2 + t)), (1, .ref (X.2.2.2 + t1)), (2, .int v5)]) g dX7_makeTurned_99 rfl rfl (by decide) rfl ?_
          refine qv_goto (pc := 102) (tgt := 9) g dX7_makeTurned_102 (by decide) ?_
          refine qv_lv [3, 4, 5, 0] rfl ?_
          exact qr12 _ _) _ _ _) _ _ _

set_option maxHeartbeats 4000000 in
set_option maxRecDepth 100000 in
theorem c_X9_turn (l : Launch) (X : qv_X) (d : Nat) (T : List qv_Ent) (t : Nat) (p1 : Int32) (M : qv_Mem) {nt : Nat} (ht : qv_is (nt + 4) T 9 14 t) : qv_Ok l X yX9_turn cX9_turn 2 (some .int) (d + 2) T M [.ref (X.2.2.2 + t), .int p1] qv_eIM (f_X9_turn T t p1 M) := by
  refine qv_mk (lv := [(0, .ref (X.2.2.2 + t)), (1, .int p1)]) (by decide) (Nat.le_of_ble_eq_true rfl) rfl (fun G hG hRm g hr => ?_)
  have g : qv_ok G X cX9_turn RX9 2 := g
  unfold f_X9_turn
  refine qv_iload_n (pc := 0) g dX9_turn_0 rfl rfl ?_
  refine qv_aI rfl (qv_cs (pc := 1) g (c_X9_isRegister (gl G) X d T _ M) (qv_R hRm (by omega) (by decide)) ⟨Nat.zero_le _, Nat.zero_le _⟩ mw_X9_isRegister lk_RX9_90 st_X9_isRegister pd_X9_isRegister rfl (Nat.le_of_ble_eq_true rfl) dX9_turn_1) (fun v1 => ?_)
  refine qv_if_ne (pc := 4) (tgt := 9) g dX9_turn_4 (by decide) ?_ ?_
  · refine qv_aload_n (pc := 9) g dX9_turn_9 rfl rfl ?_
    have h1 : qv_is _ T 7 2 (qv_rf T t 10) := ht.to 10 (by decide) (by decide) rfl
    refine qv_getr (pc := 10) g fw_RX9_77 ht (by decide) (by decide) rfl dX9_turn_10 ?_
    refine qv_aload_n (pc := 13) g dX9_turn_13 rfl rfl ?_
    have h2 : qv_is _ T 0 3 (qv_rf T t 0) := ht.to 0 (by decide) (by decide) rfl
    refine qv_getr (pc := 14) g fw_RX9_12 ht (by decide) (by decide) rfl dX9_turn_14 ?_
    have h3 : qv_is _ T 37 4 (qv_rf T (qv_rf T t 0) 0) := h2.to 0 (by decide) (by decide) rfl
    refine qv_getr (pc := 17) g fw_RX9_94 h2 (by decide) (by decide) rfl dX9_turn_17 ?_
    refine qv_iload_n (pc := 20) g dX9_turn_20 rfl rfl ?_
    refine qv_aald (pc := 21) g (by decide) h3 (fun _ _ => ⟨_, rfl⟩) dX9_turn_21 (fun z2 => ?_)
    have h4 : qv_is _ T 7 2 (qv_rf T (qv_rf T (qv_rf T t 0) 0) p1.toNatClampNeg) := h3.to _ (by decide) (qv_inb_lt z2) rfl
    refine qv_aV (qv_cv (pc := 22) g (c_X7_makeTurned (gl G) X d T _ _ M h1 h4) (qv_R hRm (by omega) (by decide)) ⟨Nat.zero_le _, Nat.zero_le _⟩ mw_X7_makeTurned lk_RX9_130 im_X7_makeTurned se_X7_makeTurned (by decide) rfl h1 pd_X7_makeTurned rfl (Nat.le_of_ble_eq_true rfl) dX9_turn_22) (fun M3 => ?_)
    refine qv_aload_n (pc := 25) g dX9_turn_25 rfl rfl ?_
    refine qv_iload_n (pc := 26) g dX9_turn_26 rfl rfl ?_
    refine qv_aIM (qv_cv (pc := 27) g (c_X9_settleRegister (gl G) X d T _ _ M3 ht) (qv_R hRm (by omega) (by decide)) ⟨Nat.zero_le _, Nat.zero_le _⟩ mw_X9_settleRegister lk_RX9_116 im_X9_settleRegister se_X9_settleRegister (by decide) rfl ht pd_X9_settleRegister rfl (Nat.le_of_ble_eq_true rfl) dX9_turn_27) (fun v4 M5 => ?_)
    exact qv_iret (pc := 30) g hr rfl dX9_turn_30
  · refine qv_iconst (v := (-1)) (pc := 7) g dX9_turn_7 (by decide) ?_
    exact qv_iret (pc := 8) g hr rfl dX9_turn_8

set_option maxHeartbeats 4000000 in
set_option maxRecDepth 100000 in
theorem c_X9_part (l : Launch) (X : qv_X) (d : Nat) (T : List qv_Ent) (t : Nat) (p1 : Int32) (p2 : Int32) (p3 : Int32) (p4 : Int32) (M : qv_Mem) {nt : Nat} (ht : qv_is (nt + 4) T 9 14 t) : qv_Ok l X yX9_part cX9_part 5 (some .long) (d + 2) T M [.ref (X.2.2.2 + t), .int p1, .int p2, .int p3, .int p4] (qv_eL M) (f_X9_part T t p1 p2 p3 p4 M) := by
  refine qv_mk (lv := [(0, .ref (X.2.2.2 + t)), (1, .int p1), (2, .int p2), (3, .int p3), (4, .int p4)]) (by decide) (Nat.le_of_ble_eq_true rfl) rfl (fun G hG hRm g hr => ?_)
  have g : qv_ok G X cX9_part RX9 5 := g
  unfold f_X9_part
  refine qv_iload_n (pc := 0) g dX9_part_0 rfl rfl ?_
  refine qv_aI rfl (qv_cs (pc := 1) g (c_X9_isRegister (gl G) X d T _ M) (qv_R hRm (by omega) (by decide)) ⟨Nat.zero_le _, Nat.zero_le _⟩ mw_X9_isRegister lk_RX9_90 st_X9_isRegister pd_X9_isRegister rfl (Nat.le_of_ble_eq_true rfl) dX9_part_1) (fun v1 => ?_)
  refine qv_join (fun (k2 : Unit → Option Int64) => ∀ (_ : Unit), qv_V G X 5 (qv_QM G X T (qv_eL M) (0, 0)) T (0, 0) 32 [] [] M (k2 ())) (fun _ => ?_) (fun k2 qk2 => ?_)
  · refine qv_ldc2 (pc := 32) g kl_RX9_137 dX9_part_32 ?_
    exact qv_lret (pc := 35) g hr rfl dX9_part_35
  refine qv_if_eq (pc := 4) (tgt := 32) g dX9_part_4 (by decide) ?_ ?_
  · refine qv_lv [] rfl ?_
    exact qk2 ()
  · refine qv_iload_n (pc := 7) g dX9_part_7 rfl rfl ?_
    refine qv_iconst (v := 2) (pc := 8) g dX9_part_8 (by decide) ?_
    refine qv_aI rfl (qv_cs (pc := 9) g (c_X9_isBelow (gl G) X (d + 1) T _ _ M) (qv_R hRm (by omega) (by decide)) ⟨Nat.zero_le _, Nat.zero_le _⟩ mw_X9_isBelow lk_RX9_133 st_X9_isBelow pd_X9_isBelow rfl (Nat.le_of_ble_eq_true rfl) dX9_part_9) (fun v3 => ?_)
    refine qv_if_eq (pc := 12) (tgt := 32) g dX9_part_12 (by decide) ?_ ?_
    · refine qv_lv [] rfl ?_
      exact qk2 ()
    · refine qv_iload_n (pc := 15) g dX9_part_15 rfl rfl ?_
      refine qv_iconst (v := 2) (pc := 16) g dX9_part_16 (by decide) ?_
      refine qv_aI rfl (qv_cs (pc := 17) g (c_X9_isBelow (gl G) X (d + 1) T _ _ M) (qv_R hRm (by omega) (by decide)) ⟨Nat.zero_le _, Nat.zero_le _⟩ mw_X9_isBelow lk_RX9_133 st_X9_isBelow pd_X9_isBelow rfl (Nat.le_of_ble_eq_true rfl) dX9_part_17) (fun v4 => ?_)
      refine qv_if_eq (pc := 20) (tgt := 32) g dX9_part_20 (by decide) ?_ ?_
      · refine qv_lv [] rfl ?_
        exact qk2 ()
      · refine qv_iload (pc := 23) g dX9_part_23 rfl ?_
        refine qv_iconst (v := 4) (pc := 25) g dX9_part_25 (by decide) ?_
        refine qv_aI rfl (qv_cs (pc := 26) g (c_X9_isBelow (gl G) X (d + 1) T _ _ M) (qv_R hRm (by omega) (by decide)) ⟨Nat.zero_le _, Nat.zero_le _⟩ mw_X9_isBelow lk_RX9_133 st_X9_isBelow pd_X9_isBelow rfl (Nat.le_of_ble_eq_true rfl) dX9_part_26) (fun v5 => ?_)
        refine qv_if_ne (pc := 29) (tgt := 36) g dX9_part_29 (by decide) ?_ ?_
        · refine qv_aload_n (pc := 36) g dX9_part_36 rfl rfl ?_
          have h1 : qv_is _ T 0 3 (qv_rf T t 0) := ht.to 0 (by decide) (by decide) rfl
          refine qv_getr (pc := 37) g fw_RX9_12 ht (by decide) (by decide) rfl dX9_part_37 ?_
          have h2 : qv_is _ T 37 4 (qv_rf T (qv_rf T t 0) 0) := h1.to 0 (by decide) (by decide) rfl
          refine qv_getr (pc := 40) g fw_RX9_94 h1 (by decide) (by decide) rfl dX9_part_40 ?_
          refine qv_iload_n (pc := 43) g dX9_part_43 rfl rfl ?_
          refine qv_aald (pc := 44) g (by decide) h2 (fun _ _ => ⟨_, rfl⟩) dX9_part_44 (fun z6 => ?_)
          have h3 : qv_is _ T 7 2 (qv_rf T (qv_rf T (qv_rf T t 0) 0) p1.toNatClampNeg) := h2.to _ (by decide) (qv_inb_lt z6) rfl
          have h4 : qv_is _ T 21 16 (qv_rf T (qv_rf T (qv_rf T (qv_rf T t 0) 0) p1.toNatClampNeg) 0) := h3.to 0 (by decide) (by decide) rfl
          refine qv_getr (pc := 45) g fw_RX9_139 h3 (by decide) (by decide) rfl dX9_part_45 ?_
          refine qv_iload_n (pc := 48) g dX9_part_48 rfl rfl ?_
          refine qv_iload_n (pc := 49) g dX9_part_49 rfl rfl ?_
          refine qv_aI rfl (qv_cs (pc := 50) g (c_X7_placeOf (gl G) X (d + 1) T _ _ M) (qv_R hRm (by omega) (by decide)) ⟨Nat.zero_le _, Nat.zero_le _⟩ mw_X7_placeOf lk_RX9_143 st_X7_placeOf pd_X7_placeOf rfl (Nat.le_of_ble_eq_true rfl) dX9_part_50) (fun v7 => ?_)
          refine qv_iload (pc := 53) g dX9_part_53 rfl ?_
          refine qv_iadd (pc := 55) g dX9_part_55 ?_
          refine qv_lald (pc := 56) g h4 dX9_part_56 (fun v8 => ?_)
          exact qv_lret (pc := 57) g hr rfl dX9_part_57
        · refine qv_lv [] rfl ?_
          exact qk2 ()

set_option maxHeartbeats 4000000 in
set_option maxRecDepth 100000 in
theorem c_X9_e (l : Launch) (X : qv_X) (d : Nat) (T : List qv_Ent) (t : Nat) (p1 : Int32) (M : qv_Mem) {nt : Nat} (ht : qv_is (nt + 4) T 9 14 t) : qv_Ok l X yX9_e cX9_e 2 (some .int) (d + 2) T M [.ref (X.2.2.2 + t), .int p1] (qv_eI M) (f_X9_e T t p1 M) := by
  refine qv_mk (lv := [(0, .ref (X.2.2.2 + t)), (1, .int p1)]) (by decide) (Nat.le_of_ble_eq_true rfl) rfl (fun G hG hRm g hr => ?_)
  have g : qv_ok G X cX9_e RX9 2 := g
  unfold f_X9_e
  refine qv_iload_n (pc := 0) g dX9_e_0 rfl rfl ?_
  refine qv_aI rfl (qv_cs (pc := 1) g (c_X9_isRegister (gl G) X d T _ M) (qv_R hRm (by omega) (by decide)) ⟨Nat.zero_le _, Nat.zero_le _⟩ mw_X9_isRegister lk_RX9_90 st_X9_isRegister pd_X9_isRegister rfl (Nat.le_of_ble_eq_true rfl) dX9_e_1) (fun v1 => ?_)
  refine qv_if_eq (pc := 4) (tgt := 22) g dX9_e_4 (by decide) ?_ ?_
  · refine qv_iconst (v := (-1)) (pc := 22) g dX9_e_22 (by decide) ?_
    exact qv_iret (pc := 23) g hr rfl dX9_e_23
  · refine qv_aload_n (pc := 7) g dX9_e_7 rfl rfl ?_
    have h1 : qv_is _ T 0 3 (qv_rf T t 0) := ht.to 0 (by decide) (by decide) rfl
    refine qv_getr (pc := 8) g fw_RX9_12 ht (by decide) (by decide) rfl dX9_e_8 ?_
    have h2 : qv_is _ T 37 4 (qv_rf T (qv_rf T t 0) 0) := h1.to 0 (by decide) (by decide) rfl
    refine qv_getr (pc := 11) g fw_RX9_94 h1 (by decide) (by decide) rfl dX9_e_11 ?_
    refine qv_iload_n (pc := 14) g dX9_e_14 rfl rfl ?_
    refine qv_aald (pc := 15) g (by decide) h2 (fun _ _ => ⟨_, rfl⟩) dX9_e_15 (fun z2 => ?_)
    have h3 : qv_is _ T 7 2 (qv_rf T (qv_rf T (qv_rf T t 0) 0) p1.toNatClampNeg) := h2.to _ (by decide) (qv_inb_lt z2) rfl
    refine qv_gets (pc := 16) g fw_RX9_98 h3 (by decide) (by decide) rfl dX9_e_16 (fun v3 => ?_)
    refine qv_goto (pc := 19) (tgt := 23) g dX9_e_19 (by decide) ?_
    exact qv_iret (pc := 23) g hr rfl dX9_e_23

set_option maxHeartbeats 4000000 in
set_option maxRecDepth 100000 in
theorem c_X7_isSame (l : Launch) (X : qv_X) (d : Nat) (T : List qv_Ent) (t : Nat) (t1 : Nat) (M : qv_Mem) {nt : Nat} (ht : qv_is (nt + 1) T 7 2 t) {nt1 : Nat} (ht1 : qv_is (nt1 + 1) T 7 2 t1) : qv_Ok l X yX7_isSame cX7_isSame 3 (some .boolean) (d) T M [.ref (X.2.2.2 + t), .ref (X.2.2.2 + t1)] (qv_eI M) (f_X7_isSame T t t1 M) := by
  refine qv_mk (lv := [(0, .ref (X.2.2.2 + t)), (1, .ref (X.2.2.2 + t1))]) (by decide) (Nat.le_of_ble_eq_true rfl) rfl (fun G hG hRm g hr => ?_)
  have g : qv_ok G X cX7_isSame RX7 3 := g
  unfold f_X7_isSame
  refine qv_aload_n (pc := 0) g dX7_isSame_0 rfl rfl ?_
  refine qv_gets (pc := 1) g fw_RX7_15 ht (by decide) (by decide) rfl dX7_isSame_1 (fun v1 => ?_)
  refine qv_aload_n (pc := 4) g dX7_isSame_4 rfl rfl ?_
  refine qv_gets (pc := 5) g fw_RX7_15 ht1 (by decide) (by decide) rfl dX7_isSame_5 (fun v2 => ?_)
  refine qv_icmp_eq (pc := 8) (tgt := 13) g dX7_isSame_8 (by decide) ?_ ?_
  · refine qv_iconst (v := 0) (pc := 13) g dX7_isSame_13 (by decide) ?_
    refine qv_istore_n (pc := 14) (lv1 := [(2, .int 0), (0, .ref (X.2.2.2 + t)), (1, .ref (X.2.2.2 + t1))]) g dX7_isSame_14 rfl (by decide) rfl ?_
    refine qv_join (fun (k3 : Unit → Option Int32) => ∀ (_ : Unit), qv_V G X 3 (qv_QM G X T (qv_eI M) (0, 0)) T (0, 0) 45 [] [] M (k3 ())) (fun _ => ?_) (fun k3 qk3 => ?_)
    · refine qv_iconst (v := 1) (pc := 45) g dX7_isSame_45 (by decide) ?_
      exact qv_zret (pc := 46) g hr rfl rfl dX7_isSame_46
    refine qv_lv [1, 2, 0] rfl ?_
    exact qv_L1 (Vh := fun (v4 : Int32) o => qv_V G X 3 (qv_QM G X T (qv_eI M) (0, 0)) T (0, 0) 15 [(0, .ref (X.2.2.2 + t)), (1, .ref (X.2.2.2 + t1)), (2, .int v4)] [] M o) (fun _ => qv_none) (fun r5 qr5 v4 => by
      unfold b_X7_isSame_15
      refine qv_iload_n (pc := 15) g dX7_isSame_15 rfl rfl ?_
      refine qv_bipush (v := 16) (pc := 16) g dX7_isSame_16 (by decide) ?_
      refine qv_icmp_ge (pc := 18) (tgt := 45) g dX7_isSame_18 (by decide) ?_ ?_
      · refine qv_lv [] rfl ?_
        exact qk3 ()
      · refine qv_aload_n (pc := 21) g dX7_isSame_21 rfl rfl ?_
        have h1 : qv_is _ T 21 16 (qv_rf T t 0) := ht.to 0 (by decide) (by decide) rfl
        refine qv_getr (pc := 22) g fw_RX7_11 ht (by decide) (by decide) rfl dX7_isSame_22 ?_
        refine qv_iload_n (pc := 25) g dX7_isSame_25 rfl rfl ?_
        refine qv_lald (pc := 26) g h1 dX7_isSame_26 (fun v6 => ?_)
        refine qv_aload_n (pc := 27) g dX7_isSame_27 rfl rfl ?_
        have h2 : qv_is _ T 21 16 (qv_rf T t1 0) := ht1.to 0 (by decide) (by decide) rfl
        refine qv_getr (pc := 28) g fw_RX7_11 ht1 (by decide) (by decide) rfl dX7_isSame_28 ?_
        refine qv_iload_n (pc := 31) g dX7_isSame_31 rfl rfl ?_
        refine qv_lald (pc := 32) g h2 dX7_isSame_32 (fun v7 => ?_)
        refine qv_lcmp (pc := 33) g dX7_isSame_33 ?_
        refine qv_if_eq (pc := 34) (tgt := 39) g dX7_isSame_34 (by decide) ?_ ?_
        · refine qv_iinc (pc := 39) (v := (v4 + 1)) (lv1 := [(2, .int (v4 + 1)), (0, .ref (X.2.2.2 + t)), (1, .ref (X.2.2.2 + t1))]) g dX7_isSame_39 rfl rfl (by decide) rfl ?_
          refine qv_goto (pc := 42) (tgt := 15) g dX7_isSame_42 (by decide) ?_
          refine qv_lv [1, 2, 0] rfl ?_
          exact qr5 _
        · refine qv_iconst (v := 0) (pc := 37) g dX7_isSame_37 (by decide) ?_
          exact qv_zret (pc := 38) g hr rfl rfl dX7_isSame_38) _ _
  · refine qv_iconst (v := 0) (pc := 11) g dX7_isSame_11 (by decide) ?_
    exact qv_zret (pc := 12) g hr rfl rfl dX7_isSame_12

