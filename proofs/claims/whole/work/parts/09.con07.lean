set_option maxHeartbeats 4000000 in
set_option maxRecDepth 100000 in
theorem c_X10_undo (l : Launch) (X : qv_X) (d : Nat) (T : List qv_Ent) (t : Nat) (M : qv_Mem) {nt : Nat} (ht : qv_is (nt + 1) T 10 29 t) : qv_Ok l X yX10_undo cX10_undo 3 (some .int) (d) T M [.ref (X.2.2.2 + t)] qv_eIM (f_X10_undo T t M) := by
  refine qv_mk (lv := [(0, .ref (X.2.2.2 + t))]) (by decide) (Nat.le_of_ble_eq_true rfl) rfl (fun G hG hRm g hr => ?_)
  have g : qv_ok G X cX10_undo RX10 3 := g
  unfold f_X10_undo
  refine qv_aload_n (pc := 0) g dX10_undo_0 rfl rfl ?_
  refine qv_gets (pc := 1) g fw_RX10_184 ht (by decide) (by decide) rfl dX10_undo_1 (fun v1 => ?_)
  refine qv_if_ne (pc := 4) (tgt := 10) g dX10_undo_4 (by decide) ?_ ?_
  · refine qv_aload_n (pc := 10) g dX10_undo_10 rfl rfl ?_
    refine qv_dup (pc := 11) g dX10_undo_11 rfl ?_
    refine qv_gets (pc := 12) g fw_RX10_184 ht (by decide) (by decide) rfl dX10_undo_12 (fun v2 => ?_)
    refine qv_iconst (v := 1) (pc := 15) g dX10_undo_15 (by decide) ?_
    refine qv_isub (pc := 16) g dX10_undo_16 ?_
    refine qv_puti (pc := 17) g pw_RX10_184 ht (by decide) (by decide) rfl dX10_undo_17 (fun M3 => ?_)
    refine qv_aload_n (pc := 20) g dX10_undo_20 rfl rfl ?_
    have h1 : qv_is _ T 20 8 (qv_rf T t 21) := ht.to 21 (by decide) (by decide) rfl
    refine qv_getr (pc := 21) g fw_RX10_67 ht (by decide) (by decide) rfl dX10_undo_21 ?_
    refine qv_aload_n (pc := 24) g dX10_undo_24 rfl rfl ?_
    refine qv_gets (pc := 25) g fw_RX10_184 ht (by decide) (by decide) rfl dX10_undo_25 (fun v4 => ?_)
    refine qv_iald (pc := 28) g h1 dX10_undo_28 (fun v5 => ?_)
    refine qv_istore_n (pc := 29) (lv1 := [(1, .int v5), (0, .ref (X.2.2.2 + t))]) g dX10_undo_29 rfl (by decide) rfl ?_
    refine qv_aload_n (pc := 30) g dX10_undo_30 rfl rfl ?_
    have h2 : qv_is _ T 20 3 (qv_rf T t 6) := ht.to 6 (by decide) (by decide) rfl
    refine qv_getr (pc := 31) g fw_RX10_31 ht (by decide) (by decide) rfl dX10_undo_31 ?_
    refine qv_iload_n (pc := 34) g dX10_undo_34 rfl rfl ?_
    refine qv_aload_n (pc := 35) g dX10_undo_35 rfl rfl ?_
    have h3 : qv_is _ T 20 8 (qv_rf T t 20) := ht.to 20 (by decide) (by decide) rfl
    refine qv_getr (pc := 36) g fw_RX10_64 ht (by decide) (by decide) rfl dX10_undo_36 ?_
    refine qv_aload_n (pc := 39) g dX10_undo_39 rfl rfl ?_
    refine qv_gets (pc := 40) g fw_RX10_184 ht (by decide) (by decide) rfl dX10_undo_40 (fun v6 => ?_)
    refine qv_iald (pc := 43) g h3 dX10_undo_43 (fun v7 => ?_)
    refine qv_iast (pc := 44) g h2 dX10_undo_44 (fun M8 => ?_)
    refine qv_iconst (v := 0) (pc := 45) g dX10_undo_45 (by decide) ?_
    refine qv_istore_n (pc := 46) (lv1 := [(2, .int 0), (1, .int v5), (0, .ref (X.2.2.2 + t))]) g dX10_undo_46 rfl (by decide) rfl ?_
    refine qv_join (fun (k10 : qv_Mem → Option (Int32 × qv_Mem)) => ∀ (M9 : qv_Mem), qv_V G X 3 (qv_QM G X T qv_eIM (0, 0)) T (0, 0) 84 [(0, .ref (X.2.2.2 + t))] [] M9 (k10 M9)) (fun M9 => ?_) (fun k10 qk10 => ?_)
    · refine qv_aload_n (pc := 84) g dX10_undo_84 rfl rfl ?_
      refine qv_gets (pc := 85) g fw_RX10_184 ht (by decide) (by decide) rfl dX10_undo_85 (fun v11 => ?_)
      exact qv_iret (pc := 88) g hr rfl dX10_undo_88
    refine qv_lv [2, 1, 0] rfl ?_
    exact qv_L2 (Vh := fun (v12 : Int32) (M13 : qv_Mem) o => qv_V G X 3 (qv_QM G X T qv_eIM (0, 0)) T (0, 0) 47 [(0, .ref (X.2.2.2 + t)), (1, .int v5), (2, .int v12)] [] M13 o) (fun _ _ => qv_none) (fun r14 qr14 v12 M13 => by
      unfold b_X10_undo_47
      refine qv_iload_n (pc := 47) g dX10_undo_47 rfl rfl ?_
      refine qv_bipush (v := 60) (pc := 48) g dX10_undo_48 (by decide) ?_
      refine qv_icmp_ge (pc := 50) (tgt := 84) g dX10_undo_50 (by decide) ?_ ?_
      · refine qv_lv [0] rfl ?_
        exact qk10 _
      · refine qv_aload_n (pc := 53) g dX10_undo_53 rfl rfl ?_
        have h4 : qv_is _ T 20 180 (qv_rf T t 5) := ht.to 5 (by decide) (by decide) rfl
        refine qv_getr (pc := 54) g fw_RX10_28 ht (by decide) (by decide) rfl dX10_undo_54 ?_
        refine qv_bipush (v := 60) (pc := 57) g dX10_undo_57 (by decide) ?_
        refine qv_iload_n (pc := 59) g dX10_undo_59 rfl rfl ?_
        refine qv_imul (pc := 60) g dX10_undo_60 ?_
        refine qv_iload_n (pc := 61) g dX10_undo_61 rfl rfl ?_
        refine qv_iadd (pc := 62) g dX10_undo_62 ?_
        refine qv_aload_n (pc := 63) g dX10_undo_63 rfl rfl ?_
        have h5 : qv_is _ T 20 480 (qv_rf T t 19) := ht.to 19 (by decide) (by decide) rfl
        refine qv_getr (pc := 64) g fw_RX10_61 ht (by decide) (by decide) rfl dX10_undo_64 ?_
        refine qv_bipush (v := 60) (pc := 67) g dX10_undo_67 (by decide) ?_
        refine qv_aload_n (pc := 69) g dX10_undo_69 rfl rfl ?_
        refine qv_gets (pc := 70) g fw_RX10_184 ht (by decide) (by decide) rfl dX10_undo_70 (fun v15 => ?_)
        refine qv_imul (pc := 73) g dX10_undo_73 ?_
        refine qv_iload_n (pc := 74) g dX10_undo_74 rfl rfl ?_
        refine qv_iadd (pc := 75) g dX10_undo_75 ?_
        refine qv_iald (pc := 76) g h5 dX10_undo_76 (fun v16 => ?_)
        refine qv_iast (pc := 77) g h4 dX10_undo_77 (fun M17 => ?_)
        refine qv_iinc (pc := 78) (v := (v12 + 1)) (lv1 := [(2, .int (v12 + 1)), (0, .ref (X.2.2.2 + t)), (1, .int v5)]) g dX10_undo_78 rfl rfl (by decide) rfl ?_
        refine qv_goto (pc := 81) (tgt := 47) g dX10_undo_81 (by decide) ?_
        refine qv_lv [1, 2, 0] rfl ?_
        exact qr14 _ _) _ _ _
  · refine qv_bipush (v := (-5)) (pc := 7) g dX10_undo_7 (by decide) ?_
    exact qv_iret (pc := 9) g hr rfl dX10_undo_9

set_option maxHeartbeats 4000000 in
set_option maxRecDepth 100000 in
theorem c_X10_feed (l : Launch) (X : qv_X) (d : Nat) (T : List qv_Ent) (t : Nat) (p1 : Int32) (M : qv_Mem) {nt : Nat} (ht : qv_is (nt + 1) T 10 29 t) : qv_Ok l X yX10_feed cX10_feed 2 (some .int) (d + 1) T M [.ref (X.2.2.2 + t), .int p1] qv_eIM (f_X10_feed T t p1 M) := by
  refine qv_mk (lv := [(0, .ref (X.2.2.2 + t)), (1, .int p1)]) (by decide) (Nat.le_of_ble_eq_true rfl) rfl (fun G hG hRm g hr => ?_)
  have g : qv_ok G X cX10_feed RX10 2 := g
  unfold f_X10_feed
  refine qv_iload_n (pc := 0) g dX10_feed_0 rfl rfl ?_
  refine qv_i2l (pc := 1) g dX10_feed_1 ?_
  refine qv_ldc2 (pc := 2) g kl_RX10_214 dX10_feed_2 ?_
  refine qv_ldc2 (pc := 5) g kl_RX10_216 dX10_feed_5 ?_
  refine qv_aI rfl (qv_cs (pc := 8) g (c_X10_isIn (gl G) X d T _ _ _ M) (qv_R hRm (by omega) (by decide)) ⟨Nat.zero_le _, Nat.zero_le _⟩ mw_X10_isIn lk_RX10_120 st_X10_isIn pd_X10_isIn rfl (Nat.le_of_ble_eq_true rfl) dX10_feed_8) (fun v1 => ?_)
  refine qv_if_ne (pc := 11) (tgt := 16) g dX10_feed_11 (by decide) ?_ ?_
  · refine qv_aload_n (pc := 16) g dX10_feed_16 rfl rfl ?_
    refine qv_gets (pc := 17) g fw_RX10_218 ht (by decide) (by decide) rfl dX10_feed_17 (fun v2 => ?_)
    refine qv_bipush (v := 80) (pc := 20) g dX10_feed_20 (by decide) ?_
    refine qv_icmp_ne (pc := 22) (tgt := 28) g dX10_feed_22 (by decide) ?_ ?_
    · refine qv_aload_n (pc := 28) g dX10_feed_28 rfl rfl ?_
      have h1 : qv_is _ T 20 80 (qv_rf T t 23) := ht.to 23 (by decide) (by decide) rfl
      refine qv_getr (pc := 29) g fw_RX10_70 ht (by decide) (by decide) rfl dX10_feed_29 ?_
      refine qv_aload_n (pc := 32) g dX10_feed_32 rfl rfl ?_
      refine qv_gets (pc := 33) g fw_RX10_218 ht (by decide) (by decide) rfl dX10_feed_33 (fun v3 => ?_)
      refine qv_iload_n (pc := 36) g dX10_feed_36 rfl rfl ?_
      refine qv_iast (pc := 37) g h1 dX10_feed_37 (fun M4 => ?_)
      refine qv_aload_n (pc := 38) g dX10_feed_38 rfl rfl ?_
      refine qv_dup (pc := 39) g dX10_feed_39 rfl ?_
      refine qv_gets (pc := 40) g fw_RX10_218 ht (by decide) (by decide) rfl dX10_feed_40 (fun v5 => ?_)
      refine qv_iconst (v := 1) (pc := 43) g dX10_feed_43 (by decide) ?_
      refine qv_iadd (pc := 44) g dX10_feed_44 ?_
      refine qv_puti (pc := 45) g pw_RX10_218 ht (by decide) (by decide) rfl dX10_feed_45 (fun M6 => ?_)
      refine qv_aload_n (pc := 48) g dX10_feed_48 rfl rfl ?_
      refine qv_gets (pc := 49) g fw_RX10_218 ht (by decide) (by decide) rfl dX10_feed_49 (fun v7 => ?_)
      exact qv_iret (pc := 52) g hr rfl dX10_feed_52
    · refine qv_bipush (v := (-3)) (pc := 25) g dX10_feed_25 (by decide) ?_
      exact qv_iret (pc := 27) g hr rfl dX10_feed_27
  · refine qv_iconst (v := (-1)) (pc := 14) g dX10_feed_14 (by decide) ?_
    exact qv_iret (pc := 15) g hr rfl dX10_feed_15

set_option maxHeartbeats 4000000 in
set_option maxRecDepth 100000 in
theorem c_X10_wipe (l : Launch) (X : qv_X) (d : Nat) (T : List qv_Ent) (t : Nat) (M : qv_Mem) {nt : Nat} (ht : qv_is (nt + 1) T 10 29 t) : qv_Ok l X yX10_wipe cX10_wipe 2 (some .int) (d) T M [.ref (X.2.2.2 + t)] qv_eIM (f_X10_wipe T t M) := by
  refine qv_mk (lv := [(0, .ref (X.2.2.2 + t))]) (by decide) (Nat.le_of_ble_eq_true rfl) rfl (fun G hG hRm g hr => ?_)
  have g : qv_ok G X cX10_wipe RX10 2 := g
  unfold f_X10_wipe
  refine qv_aload_n (pc := 0) g dX10_wipe_0 rfl rfl ?_
  refine qv_gets (pc := 1) g fw_RX10_218 ht (by decide) (by decide) rfl dX10_wipe_1 (fun v1 => ?_)
  refine qv_istore_n (pc := 4) (lv1 := [(1, .int v1), (0, .ref (X.2.2.2 + t))]) g dX10_wipe_4 rfl (by decide) rfl ?_
  refine qv_aload_n (pc := 5) g dX10_wipe_5 rfl rfl ?_
  refine qv_iconst (v := 0) (pc := 6) g dX10_wipe_6 (by decide) ?_
  refine qv_puti (pc := 7) g pw_RX10_218 ht (by decide) (by decide) rfl dX10_wipe_7 (fun M2 => ?_)
  refine qv_iload_n (pc := 10) g dX10_wipe_10 rfl rfl ?_
  exact qv_iret (pc := 11) g hr rfl dX10_wipe_11

set_option maxHeartbeats 4000000 in
set_option maxRecDepth 100000 in
theorem c_X10_here (l : Launch) (X : qv_X) (d : Nat) (T : List qv_Ent) (t : Nat) (M : qv_Mem) {nt : Nat} (ht : qv_is (nt + 1) T 10 29 t) : qv_Ok l X yX10_here cX10_here 1 (some .int) (d) T M [.ref (X.2.2.2 + t)] (qv_eI M) (f_X10_here T t M) := by
  refine qv_mk (lv := [(0, .ref (X.2.2.2 + t))]) (by decide) (Nat.le_of_ble_eq_true rfl) rfl (fun G hG hRm g hr => ?_)
  have g : qv_ok G X cX10_here RX10 1 := g
  unfold f_X10_here
  refine qv_aload_n (pc := 0) g dX10_here_0 rfl rfl ?_
  refine qv_gets (pc := 1) g fw_RX10_221 ht (by decide) (by decide) rfl dX10_here_1 (fun v1 => ?_)
  refine qv_aload_n (pc := 4) g dX10_here_4 rfl rfl ?_
  refine qv_gets (pc := 5) g fw_RX10_218 ht (by decide) (by decide) rfl dX10_here_5 (fun v2 => ?_)
  refine qv_icmp_ge (pc := 8) (tgt := 23) g dX10_here_8 (by decide) ?_ ?_
  · refine qv_bipush (v := (-2)) (pc := 23) g dX10_here_23 (by decide) ?_
    exact qv_iret (pc := 25) g hr rfl dX10_here_25
  · refine qv_aload_n (pc := 11) g dX10_here_11 rfl rfl ?_
    have h1 : qv_is _ T 20 80 (qv_rf T t 23) := ht.to 23 (by decide) (by decide) rfl
    refine qv_getr (pc := 12) g fw_RX10_70 ht (by decide) (by decide) rfl dX10_here_12 ?_
    refine qv_aload_n (pc := 15) g dX10_here_15 rfl rfl ?_
    refine qv_gets (pc := 16) g fw_RX10_221 ht (by decide) (by decide) rfl dX10_here_16 (fun v3 => ?_)
    refine qv_iald (pc := 19) g h1 dX10_here_19 (fun v4 => ?_)
    refine qv_goto (pc := 20) (tgt := 25) g dX10_here_20 (by decide) ?_
    exact qv_iret (pc := 25) g hr rfl dX10_here_25

set_option maxHeartbeats 4000000 in
set_option maxRecDepth 100000 in
theorem c_X10_gateBy (l : Launch) (X : qv_X) (d : Nat) (T : List qv_Ent) (p0 : Int32) (M : qv_Mem)  : qv_Ok l X yX10_gateBy cX10_gateBy 1 (some .int) (d) T M [.int p0] (qv_eI M) (f_X10_gateBy p0) := by
  refine qv_mk (lv := [(0, .int p0)]) (by decide) (Nat.le_of_ble_eq_true rfl) rfl (fun G hG hRm g hr => ?_)
  have g : qv_ok G X cX10_gateBy RX10 1 := g
  unfold f_X10_gateBy
  refine qv_iload_n (pc := 0) g dX10_gateBy_0 rfl rfl ?_
  refine qv_ite _ (fun e1 => ?_) (fun n2 => ?_)
  · refine qv_tabI (pc := 1) (tgt := 92) g dX10_gateBy_1 (by rw [e1]; decide) (by rw [e1]; decide) (by rw [e1]; rfl) (by decide) ?_
    refine qv_iconst (v := 0) (pc := 92) g dX10_gateBy_92 (by decide) ?_
    exact qv_iret (pc := 93) g hr rfl dX10_gateBy_93
  refine qv_ite _ (fun e3 => ?_) (fun n4 => ?_)
  · refine qv_tabI (pc := 1) (tgt := 96) g dX10_gateBy_1 (by rw [e3]; decide) (by rw [e3]; decide) (by rw [e3]; rfl) (by decide) ?_
    refine qv_iconst (v := 2) (pc := 96) g dX10_gateBy_96 (by decide) ?_
    exact qv_iret (pc := 97) g hr rfl dX10_gateBy_97
  refine qv_ite _ (fun e5 => ?_) (fun n6 => ?_)
  · refine qv_tabI (pc := 1) (tgt := 94) g dX10_gateBy_1 (by rw [e5]; decide) (by rw [e5]; decide) (by rw [e5]; rfl) (by decide) ?_
    refine qv_iconst (v := 1) (pc := 94) g dX10_gateBy_94 (by decide) ?_
    exact qv_iret (pc := 95) g hr rfl dX10_gateBy_95
  refine qv_ite _ (fun e7 => ?_) (fun n8 => ?_)
  · refine qv_tabI (pc := 1) (tgt := 104) g dX10_gateBy_1 (by rw [e7]; decide) (by rw [e7]; decide) (by rw [e7]; rfl) (by decide) ?_
    refine qv_bipush (v := 6) (pc := 104) g dX10_gateBy_104 (by decide) ?_
    exact qv_iret (pc := 106) g hr rfl dX10_gateBy_106
  refine qv_ite _ (fun e9 => ?_) (fun n10 => ?_)
  · refine qv_tabI (pc := 1) (tgt := 102) g dX10_gateBy_1 (by rw [e9]; decide) (by rw [e9]; decide) (by rw [e9]; rfl) (by decide) ?_
    refine qv_iconst (v := 5) (pc := 102) g dX10_gateBy_102 (by decide) ?_
    exact qv_iret (pc := 103) g hr rfl dX10_gateBy_103
  refine qv_ite _ (fun e11 => ?_) (fun n12 => ?_)
  · refine qv_tabI (pc := 1) (tgt := 98) g dX10_gateBy_1 (by rw [e11]; decide) (by rw [e11]; decide) (by rw [e11]; rfl) (by decide) ?_
    refine qv_iconst (v := 3) (pc := 98) g dX10_gateBy_98 (by decide) ?_
    exact qv_iret (pc := 99) g hr rfl dX10_gateBy_99
  refine qv_ite _ (fun e13 => ?_) (fun n14 => ?_)
  · refine qv_tabI (pc := 1) (tgt := 100) g dX10_gateBy_1 (by rw [e13]; decide) (by rw [e13]; decide) (by rw [e13]; rfl) (by decide) ?_
    refine qv_iconst (v := 4) (pc := 100) g dX10_gateBy_100 (by decide) ?_
    exact qv_iret (pc := 101) g hr rfl dX10_gateBy_101
  refine qv_tabD (pc := 1) (tgt := 107) (cl := [72, 83, 84, 85, 87, 88, 90]) (n := 19) g dX10_gateBy_1 (by decide) (by decide) (by simp [n2, n4, n6, n8, n10, n12, n14]) (by decide) ?_
  refine qv_bipush (v := (-2)) (pc := 107) g dX10_gateBy_107 (by decide) ?_
  exact qv_iret (pc := 109) g hr rfl dX10_gateBy_109

set_option maxHeartbeats 4000000 in
set_option maxRecDepth 100000 in
theorem c_X10_begins (l : Launch) (X : qv_X) (d : Nat) (T : List qv_Ent) (t : Nat) (M : qv_Mem) {nt : Nat} (ht : qv_is (nt + 1) T 10 29 t) : qv_Ok l X yX10_begins cX10_begins 1 (some .boolean) (d + 1) T M [.ref (X.2.2.2 + t)] (qv_eI M) (f_X10_begins T t M) := by
  refine qv_mk (lv := [(0, .ref (X.2.2.2 + t))]) (by decide) (Nat.le_of_ble_eq_true rfl) rfl (fun G hG hRm g hr => ?_)
  have g : qv_ok G X cX10_begins RX10 1 := g
  unfold f_X10_begins
  refine qv_aload_n (pc := 0) g dX10_begins_0 rfl rfl ?_
  refine qv_aI rfl (qv_cv (pc := 1) g (c_X10_here (gl G) X d T _ M ht) (qv_R hRm (by omega) (by decide)) ⟨Nat.zero_le _, Nat.zero_le _⟩ mw_X10_here lk_RX10_224 im_X10_here se_X10_here (by decide) rfl ht pd_X10_here rfl (Nat.le_of_ble_eq_true rfl) dX10_begins_1) (fun v1 => ?_)
  refine qv_aI rfl (qv_cs (pc := 4) g (c_X10_gateBy (gl G) X d T _ M) (qv_R hRm (by omega) (by decide)) ⟨Nat.zero_le _, Nat.zero_le _⟩ mw_X10_gateBy lk_RX10_228 st_X10_gateBy pd_X10_gateBy rfl (Nat.le_of_ble_eq_true rfl) dX10_begins_4) (fun v2 => ?_)
  refine qv_bipush (v := (-2)) (pc := 7) g dX10_begins_7 (by decide) ?_
  refine qv_icmp_ne (pc := 9) (tgt := 38) g dX10_begins_9 (by decide) ?_ ?_
  · refine qv_iconst (v := 1) (pc := 38) g dX10_begins_38 (by decide) ?_
    refine qv_goto (pc := 39) (tgt := 43) g dX10_begins_39 (by decide) ?_
    exact qv_zret (pc := 43) g hr rfl rfl dX10_begins_43
  · refine qv_aload_n (pc := 12) g dX10_begins_12 rfl rfl ?_
    refine qv_aI rfl (qv_cv (pc := 13) g (c_X10_here (gl G) X d T _ M ht) (qv_R hRm (by omega) (by decide)) ⟨Nat.zero_le _, Nat.zero_le _⟩ mw_X10_here lk_RX10_224 im_X10_here se_X10_here (by decide) rfl ht pd_X10_here rfl (Nat.le_of_ble_eq_true rfl) dX10_begins_13) (fun v3 => ?_)
    refine qv_bipush (v := 126) (pc := 16) g dX10_begins_16 (by decide) ?_
    refine qv_icmp_eq (pc := 18) (tgt := 38) g dX10_begins_18 (by decide) ?_ ?_
    · refine qv_iconst (v := 1) (pc := 38) g dX10_begins_38 (by decide) ?_
      refine qv_goto (pc := 39) (tgt := 43) g dX10_begins_39 (by decide) ?_
      exact qv_zret (pc := 43) g hr rfl rfl dX10_begins_43
    · refine qv_aload_n (pc := 21) g dX10_begins_21 rfl rfl ?_
      refine qv_aI rfl (qv_cv (pc := 22) g (c_X10_here (gl G) X d T _ M ht) (qv_R hRm (by omega) (by decide)) ⟨Nat.zero_le _, Nat.zero_le _⟩ mw_X10_here lk_RX10_224 im_X10_here se_X10_here (by decide) rfl ht pd_X10_here rfl (Nat.le_of_ble_eq_true rfl) dX10_begins_22) (fun v4 => ?_)
      refine qv_bipush (v := 40) (pc := 25) g dX10_begins_25 (by decide) ?_
      refine qv_icmp_ne (pc := 27) (tgt := 42) g dX10_begins_27 (by decide) ?_ ?_
      · refine qv_iconst (v := 0) (pc := 42) g dX10_begins_42 (by decide) ?_
        exact qv_zret (pc := 43) g hr rfl rfl dX10_begins_43
      · refine qv_aload_n (pc := 30) g dX10_begins_30 rfl rfl ?_
        refine qv_gets (pc := 31) g fw_RX10_231 ht (by decide) (by decide) rfl dX10_begins_31 (fun v5 => ?_)
        refine qv_iconst (v := 4) (pc := 34) g dX10_begins_34 (by decide) ?_
        refine qv_icmp_ge (pc := 35) (tgt := 42) g dX10_begins_35 (by decide) ?_ ?_
        · refine qv_iconst (v := 0) (pc := 42) g dX10_begins_42 (by decide) ?_
          exact qv_zret (pc := 43) g hr rfl rfl dX10_begins_43
        · refine qv_iconst (v := 1) (pc := 38) g dX10_begins_38 (by decide) ?_
          refine qv_goto (pc := 39) (tgt := 43) g dX10_begins_39 (by decide) ?_
          exact qv_zret (pc := 43) g hr rfl rfl dX10_begins_43

set_option maxHeartbeats 4000000 in
set_option maxRecDepth 100000 in
theorem c_X10_puts (l : Launch) (X : qv_X) (d : Nat) (T : List qv_Ent) (t : Nat) (p1 : Int32) (M : qv_Mem) {nt : Nat} (ht : qv_is (nt + 1) T 10 29 t) : qv_Ok l X yX10_puts cX10_puts 2 none (d) T M [.ref (X.2.2.2 + t), .int p1] qv_eV (f_X10_puts T t p1 M) := by
  refine qv_mk (lv := [(0, .ref (X.2.2.2 + t)), (1, .int p1)]) (by decide) (Nat.le_of_ble_eq_true rfl) rfl (fun G hG hRm g hr => ?_)
  have g : qv_ok G X cX10_puts RX10 2 := g
  unfold f_X10_puts
  refine qv_aload_n (pc := 0) g dX10_puts_0 rfl rfl ?_
  refine qv_gets (pc := 1) g fw_RX10_234 ht (by decide) (by decide) rfl dX10_puts_1 (fun v1 => ?_)
  refine qv_if_ne (pc := 4) (tgt := 27) g dX10_puts_4 (by decide) ?_ ?_
  · exact qv_vret (pc := 27) g hr rfl dX10_puts_27
  · refine qv_aload_n (pc := 7) g dX10_puts_7 rfl rfl ?_
    have h1 : qv_is _ T 20 600 (qv_rf T t 17) := ht.to 17 (by decide) (by decide) rfl
    refine qv_getr (pc := 8) g fw_RX10_58 ht (by decide) (by decide) rfl dX10_puts_8 ?_
    refine qv_aload_n (pc := 11) g dX10_puts_11 rfl rfl ?_
    refine qv_gets (pc := 12) g fw_RX10_175 ht (by decide) (by decide) rfl dX10_puts_12 (fun v2 => ?_)
    refine qv_iload_n (pc := 15) g dX10_puts_15 rfl rfl ?_
    refine qv_iast (pc := 16) g h1 dX10_puts_16 (fun M3 => ?_)
    refine qv_aload_n (pc := 17) g dX10_puts_17 rfl rfl ?_
    refine qv_dup (pc := 18) g dX10_puts_18 rfl ?_
    refine qv_gets (pc := 19) g fw_RX10_175 ht (by decide) (by decide) rfl dX10_puts_19 (fun v4 => ?_)
    refine qv_iconst (v := 1) (pc := 22) g dX10_puts_22 (by decide) ?_
    refine qv_iadd (pc := 23) g dX10_puts_23 ?_
    refine qv_puti (pc := 24) g pw_RX10_175 ht (by decide) (by decide) rfl dX10_puts_24 (fun M5 => ?_)
    exact qv_vret (pc := 27) g hr rfl dX10_puts_27

set_option maxHeartbeats 4000000 in
set_option maxRecDepth 100000 in
theorem c_X10_reverses (l : Launch) (X : qv_X) (d : Nat) (T : List qv_Ent) (t : Nat) (p1 : Int32) (M : qv_Mem) {nt : Nat} (ht : qv_is (nt + 1) T 10 29 t) : qv_Ok l X yX10_reverses cX10_reverses 7 none (d + 1) T M [.ref (X.2.2.2 + t), .int p1] qv_eV (f_X10_reverses T t p1 M) := by
  refine qv_mk (lv := [(0, .ref (X.2.2.2 + t)), (1, .int p1)]) (by decide) (Nat.le_of_ble_eq_true rfl) rfl (fun G hG hRm g hr => ?_)
  have g : qv_ok G X cX10_reverses RX10 7 := g
  unfold f_X10_reverses
  refine qv_aload_n (pc := 0) g dX10_reverses_0 rfl rfl ?_
  refine qv_gets (pc := 1) g fw_RX10_175 ht (by decide) (by decide) rfl dX10_reverses_1 (fun v1 => ?_)
  refine qv_iload_n (pc := 4) g dX10_reverses_4 rfl rfl ?_
  refine qv_isub (pc := 5) g dX10_reverses_5 ?_
  refine qv_istore_n (pc := 6) (lv1 := [(2, .int (v1 - p1)), (0, .ref (X.2.2.2 + t)), (1, .int p1)]) g dX10_reverses_6 rfl (by decide) rfl ?_
  refine qv_iconst (v := 0) (pc := 7) g dX10_reverses_7 (by decide) ?_
  refine qv_istore_n (pc := 8) (lv1 := [(3, .int 0), (2, .int (v1 - p1)), (0, .ref (X.2.2.2 + t)), (1, .int p1)]) g dX10_reverses_8 rfl (by decide) rfl ?_
  refine qv_iconst (v := 0) (pc := 9) g dX10_reverses_9 (by decide) ?_
  refine qv_istore (pc := 10) (lv1 := [(4, .int 0), (3, .int 0), (2, .int (v1 - p1)), (0, .ref (X.2.2.2 + t)), (1, .int p1)]) g dX10_reverses_10 (by decide) rfl ?_
  refine qv_join (fun (k4 : Int32 → qv_Mem → Option qv_Mem) => ∀ (v2 : Int32) (M3 : qv_Mem), qv_V G X 7 (qv_QM G X T qv_eV (0, 0)) T (0, 0) 82 [(0, .ref (X.2.2.2 + t)), (1, .int p1), (2, .int (v1 - p1)), (3, .int v2)] [] M3 (k4 v2 M3)) (fun v2 M3 => ?_) (fun k4 qk4 => ?_)
  · refine qv_aload_n (pc := 82) g dX10_reverses_82 rfl rfl ?_
    refine qv_dup (pc := 83) g dX10_reverses_83 rfl ?_
    refine qv_gets (pc := 84) g fw_RX10_234 ht (by decide) (by decide) rfl dX10_reverses_84 (fun v5 => ?_)
    refine qv_iload_n (pc := 87) g dX10_reverses_87 rfl rfl ?_
    refine qv_bipush (v := 60) (pc := 88) g dX10_reverses_88 (by decide) ?_
    refine qv_join (fun (k7 : Int32 → Option qv_Mem) => ∀ (v6 : Int32), qv_V G X 7 (qv_QM G X T qv_eV (0, 0)) T (0, 0) 98 [(0, .ref (X.2.2.2 + t)), (1, .int p1), (2, .int (v1 - p1))] [.int v6, .int v5, .ref (X.2.2.2 + t)] M3 (k7 v6)) (fun v6 => ?_) (fun k7 qk7 => ?_)
    · refine qv_ior (pc := 98) g dX10_reverses_98 ?_
      refine qv_putz (pc := 99) g pw_RX10_234 ht (by decide) (by decide) rfl dX10_reverses_99 (fun M8 => ?_)
      refine qv_aload_n (pc := 102) g dX10_reverses_102 rfl rfl ?_
      refine qv_gets (pc := 103) g fw_RX10_234 ht (by decide) (by decide) rfl dX10_reverses_103 (fun v9 => ?_)
      refine qv_if_eq (pc := 106) (tgt := 110) g dX10_reverses_106 (by decide) ?_ ?_
      · refine qv_aload_n (pc := 110) g dX10_reverses_110 rfl rfl ?_
        refine qv_iload_n (pc := 111) g dX10_reverses_111 rfl rfl ?_
        refine qv_puti (pc := 112) g pw_RX10_175 ht (by decide) (by decide) rfl dX10_reverses_112 (fun M10 => ?_)
        refine qv_iload_n (pc := 115) g dX10_reverses_115 rfl rfl ?_
        refine qv_iconst (v := 1) (pc := 116) g dX10_reverses_116 (by decide) ?_
        refine qv_isub (pc := 117) g dX10_reverses_117 ?_
        refine qv_istore (pc := 118) (lv1 := [(4, .int ((v1 - p1) - 1)), (0, .ref (X.2.2.2 + t)), (1, .int p1), (2, .int (v1 - p1))]) g dX10_reverses_118 (by decide) rfl ?_
        refine qv_join (fun (k12 : qv_Mem → Option qv_Mem) => ∀ (M11 : qv_Mem), qv_V G X 7 (qv_QM G X T qv_eV (0, 0)) T (0, 0) 206 [] [] M11 (k12 M11)) (fun M11 => ?_) (fun k12 qk12 => ?_)
        · exact qv_vret (pc := 206) g hr rfl dX10_reverses_206
        refine qv_lv [1, 0] rfl ?_
        exact qv_L2 (Vh := fun (v13 : Int32) (M14 : qv_Mem) o => qv_V G X 7 (qv_QM G X T qv_eV (0, 0)) T (0, 0) 120 [(0, .ref (X.2.2.2 + t)), (4, .int v13)] [] M14 o) (fun _ _ => qv_none) (fun r15 qr15 v13 M14 => by
          unfold b_X10_reverses_120
          refine qv_iload (pc := 120) g dX10_reverses_120 rfl ?_
          refine qv_if_lt (pc := 122) (tgt := 206) g dX10_reverses_122 (by decide) ?_ ?_
          · refine qv_lv [] rfl ?_
            exact qk12 _
          · refine qv_aload_n (pc := 125) g dX10_reverses_125 rfl rfl ?_
            have h1 : qv_is _ T 20 120 (qv_rf T t 28) := ht.to 28 (by decide) (by decide) rfl
            refine qv_getr (pc := 126) g fw_RX10_73 ht (by decide) (by decide) rfl dX10_reverses_126 ?_
            refine qv_iload (pc := 129) g dX10_reverses_129 rfl ?_
            refine qv_iald (pc := 131) g h1 dX10_reverses_131 (fun v16 => ?_)
            refine qv_istore (pc := 132) (lv1 := [(5, .int v16), (0, .ref (X.2.2.2 + t)), (4, .int v13)]) g dX10_reverses_132 (by decide) rfl ?_
            refine qv_aload_n (pc := 134) g dX10_reverses_134 rfl rfl ?_
            refine qv_iload (pc := 135) g dX10_reverses_135 rfl ?_
            refine qv_iconst (v := 1) (pc := 137) g dX10_reverses_137 (by decide) ?_
            refine qv_join (fun (k18 : Int32 → Option qv_Mem) => ∀ (v17 : Int32), qv_V G X 7 (qv_QM G X T qv_eV (0, 0)) T (0, 0) 159 [(0, .ref (X.2.2.2 + t)), (4, .int v13), (5, .int v16)] [.int v17, .ref (X.2.2.2 + t)] M14 (k18 v17)) (fun v17 => ?_) (fun k18 qk18 => ?_)
            · refine qv_aV (qv_cv (pc := 159) g (c_X10_puts (gl G) X d T _ _ M14 ht) (qv_R hRm (by omega) (by decide)) ⟨Nat.zero_le _, Nat.zero_le _⟩ mw_X10_puts lk_RX10_238 im_X10_puts se_X10_puts (by decide) rfl ht pd_X10_puts rfl (Nat.le_of_ble_eq_true rfl) dX10_reverses_159) (fun M19 => ?_)
              refine qv_iload (pc := 162) g dX10_reverses_162 rfl ?_
              refine qv_iconst (v := 2) (pc := 164) g dX10_reverses_164 (by decide) ?_
              refine qv_join (fun (k21 : qv_Mem → Option qv_Mem) => ∀ (M20 : qv_Mem), qv_V G X 7 (qv_QM G X T qv_eV (0, 0)) T (0, 0) 173 [(0, .ref (X.2.2.2 + t)), (4, .int v13), (5, .int v16)] [] M20 (k21 M20)) (fun M20 => ?_) (fun k21 qk21 => ?_)
              · refine qv_iconst (v := 1) (pc := 173) g dX10_reverses_173 (by decide) ?_
                refine qv_istore (pc := 174) (lv1 := [(6, .int 1), (0, .ref (X.2.2.2 + t)), (4, .int v13), (5, .int v16)]) g dX10_reverses_174 (by decide) rfl ?_
                refine qv_join (fun (k23 : qv_Mem → Option qv_Mem) => ∀ (M22 : qv_Mem), qv_V G X 7 (qv_QM G X T qv_eV (0, 0)) T (0, 0) 200 [(0, .ref (X.2.2.2 + t)), (4, .int v13)] [] M22 (k23 M22)) (fun M22 => ?_) (fun k23 qk23 => ?_)
                · refine qv_iinc (pc := 200) (v := (v13 + (-1))) (lv1 := [(4, .int (v13 + (-1))), (0, .ref (X.2.2.2 + t))]) g dX10_reverses_200 rfl rfl (by decide) rfl ?_
                  refine qv_goto (pc := 203) (tgt := 120) g dX10_reverses_203 (by decide) ?_
                  refine qv_lv [1, 0] rfl ?_
                  exact qr15 _ _
                refine qv_lv [1, 2, 3, 0] rfl ?_
                exact qv_L2 (Vh := fun (v24 : Int32) (M25 : qv_Mem) o => qv_V G X 7 (qv_QM G X T qv_eV (0, 0)) T (0, 0) 176 [(0, .ref (X.2.2.2 + t)), (4, .int v13), (5, .int v16), (6, .int v24)] [] M25 o) (fun _ _ => qv_none) (fun r26 qr26 v24 M25 => by
                  unfold b_X10_reverses_176
                  refine qv_iload (pc := 176) g dX10_reverses_176 rfl ?_
                  refine qv_bipush (v := 7) (pc := 178) g dX10_reverses_178 (by decide) ?_
                  refine qv_icmp_ge (pc := 180) (tgt := 200) g dX10_reverses_180 (by decide) ?_ ?_
                  · refine qv_lv [0, 1] rfl ?_
                    exact qk23 _
                  · refine qv_iload (pc := 183) g dX10_reverses_183 rfl ?_
                    refine qv_iconst (v := 5) (pc := 185) g dX10_reverses_185 (by decide) ?_
                    refine qv_icmp_ne (pc := 186) (tgt := 200) g dX10_reverses_186 (by decide) ?_ ?_
                    · refine qv_lv [0, 1] rfl ?_
                      exact qk23 _
                    · refine qv_aload_n (pc := 189) g dX10_reverses_189 rfl rfl ?_
                      refine qv_iconst (v := 5) (pc := 190) g dX10_reverses_190 (by decide) ?_
                      refine qv_aV (qv_cv (pc := 191) g (c_X10_puts (gl G) X d T _ _ M25 ht) (qv_R hRm (by omega) (by decide)) ⟨Nat.zero_le _, Nat.zero_le _⟩ mw_X10_puts lk_RX10_238 im_X10_puts se_X10_puts (by decide) rfl ht pd_X10_puts rfl (Nat.le_of_ble_eq_true rfl) dX10_reverses_191) (fun M27 => ?_)
                      refine qv_iinc (pc := 194) (v := (v24 + 1)) (lv1 := [(6, .int (v24 + 1)), (0, .ref (X.2.2.2 + t)), (4, .int v13), (5, .int v16)]) g dX10_reverses_194 rfl rfl (by decide) rfl ?_
                      refine qv_goto (pc := 197) (tgt := 176) g dX10_reverses_197 (by decide) ?_
                      refine qv_lv [1, 2, 3, 0] rfl ?_
                      exact qr26 _ _) _ _ _
              refine qv_icmp_ne (pc := 165) (tgt := 173) g dX10_reverses_165 (by decide) ?_ ?_
              · exact qk21 _
              · refine qv_aload_n (pc := 168) g dX10_reverses_168 rfl rfl ?_
                refine qv_iconst (v := 4) (pc := 169) g dX10_reverses_169 (by decide) ?_
                refine qv_aV (qv_cv (pc := 170) g (c_X10_puts (gl G) X d T _ _ M19 ht) (qv_R hRm (by omega) (by decide)) ⟨Nat.zero_le _, Nat.zero_le _⟩ mw_X10_puts lk_RX10_238 im_X10_puts se_X10_puts (by decide) rfl ht pd_X10_puts rfl (Nat.le_of_ble_eq_true rfl) dX10_reverses_170) (fun M28 => ?_)
                exact qk21 _
            refine qv_icmp_ne (pc := 138) (tgt := 146) g dX10_reverses_138 (by decide) ?_ ?_
            · refine qv_iload (pc := 146) g dX10_reverses_146 rfl ?_
              refine qv_bipush (v := 6) (pc := 148) g dX10_reverses_148 (by decide) ?_
              refine qv_icmp_ne (pc := 150) (tgt := 157) g dX10_reverses_150 (by decide) ?_ ?_
              · refine qv_iload (pc := 157) g dX10_reverses_157 rfl ?_
                refine qv_lv [1, 2, 0] rfl ?_
                exact qk18 _
              · refine qv_iconst (v := 1) (pc := 153) g dX10_reverses_153 (by decide) ?_
                refine qv_goto (pc := 154) (tgt := 159) g dX10_reverses_154 (by decide) ?_
                refine qv_lv [1, 2, 0] rfl ?_
                exact qk18 _
            · refine qv_bipush (v := 6) (pc := 141) g dX10_reverses_141 (by decide) ?_
              refine qv_goto (pc := 143) (tgt := 159) g dX10_reverses_143 (by decide) ?_
              refine qv_lv [1, 2, 0] rfl ?_
              exact qk18 _) _ _ _
      · exact qv_vret (pc := 109) g hr rfl dX10_reverses_109
    refine qv_icmp_le (pc := 90) (tgt := 97) g dX10_reverses_90 (by decide) ?_ ?_
    · refine qv_iconst (v := 0) (pc := 97) g dX10_reverses_97 (by decide) ?_
      refine qv_lv [0, 1, 2] rfl ?_
      exact qk7 _
    · refine qv_iconst (v := 1) (pc := 93) g dX10_reverses_93 (by decide) ?_
      refine qv_goto (pc := 94) (tgt := 98) g dX10_reverses_94 (by decide) ?_
      refine qv_lv [0, 1, 2] rfl ?_
      exact qk7 _
  refine qv_lv [3, 4, 2, 1, 0] rfl ?_
  exact qv_L3 (Vh := fun (v29 : Int32) (v30 : Int32) (M31 : qv_Mem) o => qv_V G X 7 (qv_QM G X T qv_eV (0, 0)) T (0, 0) 12 [(0, .ref (X.2.2.2 + t)), (1, .int p1), (2, .int (v1 - p1)), (3, .int v29), (4, .int v30)] [] M31 o) (fun _ _ _ => qv_none) (fun r32 qr32 v29 v30 M31 => by
    unfold b_X10_reverses_12
    refine qv_iload (pc := 12) g dX10_reverses_12 rfl ?_
    refine qv_iload_n (pc := 14) g dX10_reverses_14 rfl rfl ?_
    refine qv_icmp_ge (pc := 15) (tgt := 82) g dX10_reverses_15 (by decide) ?_ ?_
    · refine qv_lv [0, 1, 2, 3] rfl ?_
      exact qk4 _ _
    · refine qv_aload_n (pc := 18) g dX10_reverses_18 rfl rfl ?_
      refine qv_gets (pc := 19) g fw_RX10_234 ht (by decide) (by decide) rfl dX10_reverses_19 (fun v33 => ?_)
      refine qv_if_ne (pc := 22) (tgt := 82) g dX10_reverses_22 (by decide) ?_ ?_
      · refine qv_lv [0, 1, 2, 3] rfl ?_
        exact qk4 _ _
      · refine qv_aload_n (pc := 25) g dX10_reverses_25 rfl rfl ?_
        have h2 : qv_is _ T 20 120 (qv_rf T t 28) := ht.to 28 (by decide) (by decide) rfl
        refine qv_getr (pc := 26) g fw_RX10_73 ht (by decide) (by decide) rfl dX10_reverses_26 ?_
        refine qv_iload (pc := 29) g dX10_reverses_29 rfl ?_
        refine qv_aload_n (pc := 31) g dX10_reverses_31 rfl rfl ?_
        have h3 : qv_is _ T 20 600 (qv_rf T t 17) := ht.to 17 (by decide) (by decide) rfl
        refine qv_getr (pc := 32) g fw_RX10_58 ht (by decide) (by decide) rfl dX10_reverses_32 ?_
        refine qv_iload_n (pc := 35) g dX10_reverses_35 rfl rfl ?_
        refine qv_iload (pc := 36) g dX10_reverses_36 rfl ?_
        refine qv_iadd (pc := 38) g dX10_reverses_38 ?_
        refine qv_iald (pc := 39) g h3 dX10_reverses_39 (fun v34 => ?_)
        refine qv_iast (pc := 40) g h2 dX10_reverses_40 (fun M35 => ?_)
        refine qv_iload_n (pc := 41) g dX10_reverses_41 rfl rfl ?_
        refine qv_aload_n (pc := 42) g dX10_reverses_42 rfl rfl ?_
        refine qv_getr (pc := 43) g fw_RX10_73 ht (by decide) (by decide) rfl dX10_reverses_43 ?_
        refine qv_iload (pc := 46) g dX10_reverses_46 rfl ?_
        refine qv_iald (pc := 48) g h2 dX10_reverses_48 (fun v36 => ?_)
        refine qv_iconst (v := 2) (pc := 49) g dX10_reverses_49 (by decide) ?_
        refine qv_join (fun (k38 : Int32 → Option qv_Mem) => ∀ (v37 : Int32), qv_V G X 7 (qv_QM G X T qv_eV (0, 0)) T (0, 0) 74 [(0, .ref (X.2.2.2 + t)), (1, .int p1), (2, .int (v1 - p1)), (4, .int v30)] [.int v37, .int v29] M35 (k38 v37)) (fun v37 => ?_) (fun k38 qk38 => ?_)
        · refine qv_iadd (pc := 74) g dX10_reverses_74 ?_
          refine qv_istore_n (pc := 75) (lv1 := [(3, .int (v29 + v37)), (0, .ref (X.2.2.2 + t)), (1, .int p1), (2, .int (v1 - p1)), (4, .int v30)]) g dX10_reverses_75 rfl (by decide) rfl ?_
          refine qv_iinc (pc := 76) (v := (v30 + 1)) (lv1 := [(4, .int (v30 + 1)), (3, .int (v29 + v37)), (0, .ref (X.2.2.2 + t)), (1, .int p1), (2, .int (v1 - p1))]) g dX10_reverses_76 rfl rfl (by decide) rfl ?_
          refine qv_goto (pc := 79) (tgt := 12) g dX10_reverses_79 (by decide) ?_
          refine qv_lv [2, 3, 4, 1, 0] rfl ?_
          exact qr32 _ _ _
        refine qv_icmp_ne (pc := 50) (tgt := 57) g dX10_reverses_50 (by decide) ?_ ?_
        · refine qv_aload_n (pc := 57) g dX10_reverses_57 rfl rfl ?_
          refine qv_getr (pc := 58) g fw_RX10_73 ht (by decide) (by decide) rfl dX10_reverses_58 ?_
          refine qv_iload (pc := 61) g dX10_reverses_61 rfl ?_
          refine qv_iald (pc := 63) g h2 dX10_reverses_63 (fun v39 => ?_)
          refine qv_iconst (v := 5) (pc := 64) g dX10_reverses_64 (by decide) ?_
          refine qv_icmp_ne (pc := 65) (tgt := 73) g dX10_reverses_65 (by decide) ?_ ?_
          · refine qv_iconst (v := 1) (pc := 73) g dX10_reverses_73 (by decide) ?_
            refine qv_lv [0, 1, 2, 4] rfl ?_
            exact qk38 _
          · refine qv_bipush (v := 7) (pc := 68) g dX10_reverses_68 (by decide) ?_
            refine qv_goto (pc := 70) (tgt := 74) g dX10_reverses_70 (by decide) ?_
            refine qv_lv [0, 1, 2, 4] rfl ?_
            exact qk38 _
        · refine qv_iconst (v := 2) (pc := 53) g dX10_reverses_53 (by decide) ?_
          refine qv_goto (pc := 54) (tgt := 74) g dX10_reverses_54 (by decide) ?_
          refine qv_lv [0, 1, 2, 4] rfl ?_
          exact qk38 _) _ _ _ _

set_option maxHeartbeats 4000000 in
set_option maxRecDepth 100000 in
theorem c_X10_all (l : Launch) (X : qv_X) (d : Nat) (T : List qv_Ent) (t : Nat) (M : qv_Mem) {nt : Nat} (ht : qv_is (nt + 1) T 10 29 t) : qv_Ok l X yX10_all cX10_all 1 (some .int) (d) T M [.ref (X.2.2.2 + t)] (qv_eI M) (f_X10_all T t M) := by
  refine qv_mk (lv := [(0, .ref (X.2.2.2 + t))]) (by decide) (Nat.le_of_ble_eq_true rfl) rfl (fun G hG hRm g hr => ?_)
  have g : qv_ok G X cX10_all RX10 1 := g
  unfold f_X10_all
  refine qv_aload_n (pc := 0) g dX10_all_0 rfl rfl ?_
  have h1 : qv_is _ T 20 3 (qv_rf T t 6) := ht.to 6 (by decide) (by decide) rfl
  refine qv_getr (pc := 1) g fw_RX10_31 ht (by decide) (by decide) rfl dX10_all_1 ?_
  refine qv_iconst (v := 0) (pc := 4) g dX10_all_4 (by decide) ?_
  refine qv_iald (pc := 5) g h1 dX10_all_5 (fun v1 => ?_)
  refine qv_aload_n (pc := 6) g dX10_all_6 rfl rfl ?_
  refine qv_getr (pc := 7) g fw_RX10_31 ht (by decide) (by decide) rfl dX10_all_7 ?_
  refine qv_iconst (v := 1) (pc := 10) g dX10_all_10 (by decide) ?_
  refine qv_iald (pc := 11) g h1 dX10_all_11 (fun v2 => ?_)
  refine qv_iadd (pc := 12) g dX10_all_12 ?_
  refine qv_aload_n (pc := 13) g dX10_all_13 rfl rfl ?_
  refine qv_getr (pc := 14) g fw_RX10_31 ht (by decide) (by decide) rfl dX10_all_14 ?_
  refine qv_iconst (v := 2) (pc := 17) g dX10_all_17 (by decide) ?_
  refine qv_iald (pc := 18) g h1 dX10_all_18 (fun v3 => ?_)
  refine qv_iadd (pc := 19) g dX10_all_19 ?_
  exact qv_iret (pc := 20) g hr rfl dX10_all_20

set_option maxHeartbeats 4000000 in
set_option maxRecDepth 100000 in
theorem c_X10_image (l : Launch) (X : qv_X) (d : Nat) (T : List qv_Ent) (t : Nat) (M : qv_Mem) {nt : Nat} (ht : qv_is (nt + 1) T 10 29 t) : qv_Ok l X yX10_image cX10_image 2 (some .int) (d + 1) T M [.ref (X.2.2.2 + t)] qv_eIM (f_X10_image T t M) := by
  refine qv_mk (lv := [(0, .ref (X.2.2.2 + t))]) (by decide) (Nat.le_of_ble_eq_true rfl) rfl (fun G hG hRm g hr => ?_)
  have g : qv_ok G X cX10_image RX10 2 := g
  unfold f_X10_image
  refine qv_iconst (v := 0) (pc := 0) g dX10_image_0 (by decide) ?_
  refine qv_istore_n (pc := 1) (lv1 := [(1, .int 0), (0, .ref (X.2.2.2 + t))]) g dX10_image_1 rfl (by decide) rfl ?_
  refine qv_join (fun (k2 : qv_Mem → Option (Int32 × qv_Mem)) => ∀ (M1 : qv_Mem), qv_V G X 2 (qv_QM G X T qv_eIM (0, 0)) T (0, 0) 26 [(0, .ref (X.2.2.2 + t))] [] M1 (k2 M1)) (fun M1 => ?_) (fun k2 qk2 => ?_)
  · refine qv_iconst (v := 0) (pc := 26) g dX10_image_26 (by decide) ?_
    refine qv_istore_n (pc := 27) (lv1 := [(1, .int 0), (0, .ref (X.2.2.2 + t))]) g dX10_image_27 rfl (by decide) rfl ?_
    refine qv_join (fun (k4 : qv_Mem → Option (Int32 × qv_Mem)) => ∀ (M3 : qv_Mem), qv_V G X 2 (qv_QM G X T qv_eIM (0, 0)) T (0, 0) 53 [(0, .ref (X.2.2.2 + t))] [] M3 (k4 M3)) (fun M3 => ?_) (fun k4 qk4 => ?_)
    · refine qv_iconst (v := 0) (pc := 53) g dX10_image_53 (by decide) ?_
      refine qv_istore_n (pc := 54) (lv1 := [(1, .int 0), (0, .ref (X.2.2.2 + t))]) g dX10_image_54 rfl (by decide) rfl ?_
      refine qv_join (fun (k6 : qv_Mem → Option (Int32 × qv_Mem)) => ∀ (M5 : qv_Mem), qv_V G X 2 (qv_QM G X T qv_eIM (0, 0)) T (0, 0) 78 [(0, .ref (X.2.2.2 + t))] [] M5 (k6 M5)) (fun M5 => ?_) (fun k6 qk6 => ?_)
      · refine qv_iconst (v := 0) (pc := 78) g dX10_image_78 (by decide) ?_
        refine qv_istore_n (pc := 79) (lv1 := [(1, .int 0), (0, .ref (X.2.2.2 + t))]) g dX10_image_79 rfl (by decide) rfl ?_
        refine qv_join (fun (k8 : qv_Mem → Option (Int32 × qv_Mem)) => ∀ (M7 : qv_Mem), qv_V G X 2 (qv_QM G X T qv_eIM (0, 0)) T (0, 0) 104 [(0, .ref (X.2.2.2 + t))] [] M7 (k8 M7)) (fun M7 => ?_) (fun k8 qk8 => ?_)
        · refine qv_aload_n (pc := 104) g dX10_image_104 rfl rfl ?_
          refine qv_iconst (v := 1) (pc := 105) g dX10_image_105 (by decide) ?_
          refine qv_putz (pc := 106) g pw_RX10_258 ht (by decide) (by decide) rfl dX10_image_106 (fun M9 => ?_)
          refine qv_aload_n (pc := 109) g dX10_image_109 rfl rfl ?_
          refine qv_aI rfl (qv_cv (pc := 110) g (c_X10_all (gl G) X d T _ M9 ht) (qv_R hRm (by omega) (by decide)) ⟨Nat.zero_le _, Nat.zero_le _⟩ mw_X10_all lk_RX10_261 im_X10_all se_X10_all (by decide) rfl ht pd_X10_all rfl (Nat.le_of_ble_eq_true rfl) dX10_image_110) (fun v10 => ?_)
          exact qv_iret (pc := 113) g hr rfl dX10_image_113
        refine qv_lv [1, 0] rfl ?_
        exact qv_L2 (Vh := fun (v11 : Int32) (M12 : qv_Mem) o => qv_V G X 2 (qv_QM G X T qv_eIM (0, 0)) T (0, 0) 80 [(0, .ref (X.2.2.2 + t)), (1, .int v11)] [] M12 o) (fun _ _ => qv_none) (fun r13 qr13 v11 M12 => by
          unfold b_X10_image_80
          refine qv_iload_n (pc := 80) g dX10_image_80 rfl rfl ?_
          refine qv_bipush (v := 7) (pc := 81) g dX10_image_81 (by decide) ?_
          refine qv_icmp_ge (pc := 83) (tgt := 104) g dX10_image_83 (by decide) ?_ ?_
          · refine qv_lv [0] rfl ?_
            exact qk8 _
          · refine qv_aload_n (pc := 86) g dX10_image_86 rfl rfl ?_
            have h1 : qv_is _ T 20 7 (qv_rf T t 4) := ht.to 4 (by decide) (by decide) rfl
            refine qv_getr (pc := 87) g fw_RX10_25 ht (by decide) (by decide) rfl dX10_image_87 ?_
            refine qv_iload_n (pc := 90) g dX10_image_90 rfl rfl ?_
            refine qv_aload_n (pc := 91) g dX10_image_91 rfl rfl ?_
            have h2 : qv_is _ T 20 7 (qv_rf T t 3) := ht.to 3 (by decide) (by decide) rfl
            refine qv_getr (pc := 92) g fw_RX10_21 ht (by decide) (by decide) rfl dX10_image_92 ?_
            refine qv_iload_n (pc := 95) g dX10_image_95 rfl rfl ?_
            refine qv_iald (pc := 96) g h2 dX10_image_96 (fun v14 => ?_)
            refine qv_iast (pc := 97) g h1 dX10_image_97 (fun M15 => ?_)
            refine qv_iinc (pc := 98) (v := (v11 + 1)) (lv1 := [(1, .int (v11 + 1)), (0, .ref (X.2.2.2 + t))]) g dX10_image_98 rfl rfl (by decide) rfl ?_
            refine qv_goto (pc := 101) (tgt := 80) g dX10_image_101 (by decide) ?_
            refine qv_lv [1, 0] rfl ?_
            exact qr13 _ _) _ _ _
      refine qv_lv [1, 0] rfl ?_
      exact qv_L2 (Vh := fun (v16 : Int32) (M17 : qv_Mem) o => qv_V G X 2 (qv_QM G X T qv_eIM (0, 0)) T (0, 0) 55 [(0, .ref (X.2.2.2 + t)), (1, .int v16)] [] M17 o) (fun _ _ => qv_none) (fun r18 qr18 v16 M17 => by
        unfold b_X10_image_55
        refine qv_iload_n (pc := 55) g dX10_image_55 rfl rfl ?_
        refine qv_iconst (v := 3) (pc := 56) g dX10_image_56 (by decide) ?_
        refine qv_icmp_ge (pc := 57) (tgt := 78) g dX10_image_57 (by decide) ?_ ?_
        · refine qv_lv [0] rfl ?_
          exact qk6 _
        · refine qv_aload_n (pc := 60) g dX10_image_60 rfl rfl ?_
          have h3 : qv_is _ T 20 3 (qv_rf T t 8) := ht.to 8 (by decide) (by decide) rfl
          refine qv_getr (pc := 61) g fw_RX10_37 ht (by decide) (by decide) rfl dX10_image_61 ?_
          refine qv_iload_n (pc := 64) g dX10_image_64 rfl rfl ?_
          refine qv_aload_n (pc := 65) g dX10_image_65 rfl rfl ?_
          have h4 : qv_is _ T 20 3 (qv_rf T t 6) := ht.to 6 (by decide) (by decide) rfl
          refine qv_getr (pc := 66) g fw_RX10_31 ht (by decide) (by decide) rfl dX10_image_66 ?_
          refine qv_iload_n (pc := 69) g dX10_image_69 rfl rfl ?_
          refine qv_iald (pc := 70) g h4 dX10_image_70 (fun v19 => ?_)
          refine qv_iast (pc := 71) g h3 dX10_image_71 (fun M20 => ?_)
          refine qv_iinc (pc := 72) (v := (v16 + 1)) (lv1 := [(1, .int (v16 + 1)), (0, .ref (X.2.2.2 + t))]) g dX10_image_72 rfl rfl (by decide) rfl ?_
          refine qv_goto (pc := 75) (tgt := 55) g dX10_image_75 (by decide) ?_
          refine qv_lv [1, 0] rfl ?_
          exact qr18 _ _) _ _ _
    refine qv_lv [1, 0] rfl ?_
    exact qv_L2 (Vh := fun (v21 : Int32) (M22 : qv_Mem) o => qv_V G X 2 (qv_QM G X T qv_eIM (0, 0)) T (0, 0) 28 [(0, .ref (X.2.2.2 + t)), (1, .int v21)] [] M22 o) (fun _ _ => qv_none) (fun r23 qr23 v21 M22 => by
      unfold b_X10_image_28
      refine qv_iload_n (pc := 28) g dX10_image_28 rfl rfl ?_
      refine qv_sipush (v := 180) (pc := 29) g dX10_image_29 (by decide) ?_
      refine qv_icmp_ge (pc := 32) (tgt := 53) g dX10_image_32 (by decide) ?_ ?_
      · refine qv_lv [0] rfl ?_
        exact qk4 _
      · refine qv_aload_n (pc := 35) g dX10_image_35 rfl rfl ?_
        have h5 : qv_is _ T 20 180 (qv_rf T t 7) := ht.to 7 (by decide) (by decide) rfl
        refine qv_getr (pc := 36) g fw_RX10_34 ht (by decide) (by decide) rfl dX10_image_36 ?_
        refine qv_iload_n (pc := 39) g dX10_image_39 rfl rfl ?_
        refine qv_aload_n (pc := 40) g dX10_image_40 rfl rfl ?_
        have h6 : qv_is _ T 20 180 (qv_rf T t 5) := ht.to 5 (by decide) (by decide) rfl
        refine qv_getr (pc := 41) g fw_RX10_28 ht (by decide) (by decide) rfl dX10_image_41 ?_
        refine qv_iload_n (pc := 44) g dX10_image_44 rfl rfl ?_
        refine qv_iald (pc := 45) g h6 dX10_image_45 (fun v24 => ?_)
        refine qv_iast (pc := 46) g h5 dX10_image_46 (fun M25 => ?_)
        refine qv_iinc (pc := 47) (v := (v21 + 1)) (lv1 := [(1, .int (v21 + 1)), (0, .ref (X.2.2.2 + t))]) g dX10_image_47 rfl rfl (by decide) rfl ?_
        refine qv_goto (pc := 50) (tgt := 28) g dX10_image_50 (by decide) ?_
        refine qv_lv [1, 0] rfl ?_
        exact qr23 _ _) _ _ _
  refine qv_lv [1, 0] rfl ?_
  exact qv_L2 (Vh := fun (v26 : Int32) (M27 : qv_Mem) o => qv_V G X 2 (qv_QM G X T qv_eIM (0, 0)) T (0, 0) 2 [(0, .ref (X.2.2.2 + t)), (1, .int v26)] [] M27 o) (fun _ _ => qv_none) (fun r28 qr28 v26 M27 => by
    unfold b_X10_image_2
    refine qv_iload_n (pc := 2) g dX10_image_2 rfl rfl ?_
    refine qv_bipush (v := 68) (pc := 3) g dX10_image_3 (by decide) ?_
    refine qv_icmp_ge (pc := 5) (tgt := 26) g dX10_image_5 (by decide) ?_ ?_
    · refine qv_lv [0] rfl ?_
      exact qk2 _
    · refine qv_aload_n (pc := 8) g dX10_image_8 rfl rfl ?_
      have h7 : qv_is _ T 21 68 (qv_rf T t 2) := ht.to 2 (by decide) (by decide) rfl
      refine qv_getr (pc := 9) g fw_RX10_18 ht (by decide) (by decide) rfl dX10_image_9 ?_
      refine qv_iload_n (pc := 12) g dX10_image_12 rfl rfl ?_
      refine qv_aload_n (pc := 13) g dX10_image_13 rfl rfl ?_
      have h8 : qv_is _ T 21 340 (qv_rf T t 0) := ht.to 0 (by decide) (by decide) rfl
      refine qv_getr (pc := 14) g fw_RX10_11 ht (by decide) (by decide) rfl dX10_image_14 ?_
      refine qv_iload_n (pc := 17) g dX10_image_17 rfl rfl ?_
      refine qv_lald (pc := 18) g h8 dX10_image_18 (fun v29 => ?_)
      refine qv_last (pc := 19) g h7 dX10_image_19 (fun M30 => ?_)
      refine qv_iinc (pc := 20) (v := (v26 + 1)) (lv1 := [(1, .int (v26 + 1)), (0, .ref (X.2.2.2 + t))]) g dX10_image_20 rfl rfl (by decide) rfl ?_
      refine qv_goto (pc := 23) (tgt := 2) g dX10_image_23 (by decide) ?_
      refine qv_lv [1, 0] rfl ?_
      exact qr28 _ _) _ _ _

set_option maxHeartbeats 4000000 in
set_option maxRecDepth 100000 in
theorem c_X10_restore (l : Launch) (X : qv_X) (d : Nat) (T : List qv_Ent) (t : Nat) (M : qv_Mem) {nt : Nat} (ht : qv_is (nt + 1) T 10 29 t) : qv_Ok l X yX10_restore cX10_restore 2 (some .int) (d + 1) T M [.ref (X.2.2.2 + t)] qv_eIM (f_X10_restore T t M) := by
  refine qv_mk (lv := [(0, .ref (X.2.2.2 + t))]) (by decide) (Nat.le_of_ble_eq_true rfl) rfl (fun G hG hRm g hr => ?_)
  have g : qv_ok G X cX10_restore RX10 2 := g
  unfold f_X10_restore
  refine qv_aload_n (pc := 0) g dX10_restore_0 rfl rfl ?_
  refine qv_gets (pc := 1) g fw_RX10_258 ht (by decide) (by decide) rfl dX10_restore_1 (fun v1 => ?_)
  refine qv_if_ne (pc := 4) (tgt := 10) g dX10_restore_4 (by decide) ?_ ?_
  · refine qv_iconst (v := 0) (pc := 10) g dX10_restore_10 (by decide) ?_
    refine qv_istore_n (pc := 11) (lv1 := [(1, .int 0), (0, .ref (X.2.2.2 + t))]) g dX10_restore_11 rfl (by decide) rfl ?_
    refine qv_join (fun (k3 : qv_Mem → Option (Int32 × qv_Mem)) => ∀ (M2 : qv_Mem), qv_V G X 2 (qv_QM G X T qv_eIM (0, 0)) T (0, 0) 36 [(0, .ref (X.2.2.2 + t))] [] M2 (k3 M2)) (fun M2 => ?_) (fun k3 qk3 => ?_)
    · refine qv_iconst (v := 0) (pc := 36) g dX10_restore_36 (by decide) ?_
      refine qv_istore_n (pc := 37) (lv1 := [(1, .int 0), (0, .ref (X.2.2.2 + t))]) g dX10_restore_37 rfl (by decide) rfl ?_
      refine qv_join (fun (k5 : qv_Mem → Option (Int32 × qv_Mem)) => ∀ (M4 : qv_Mem), qv_V G X 2 (qv_QM G X T qv_eIM (0, 0)) T (0, 0) 63 [(0, .ref (X.2.2.2 + t))] [] M4 (k5 M4)) (fun M4 => ?_) (fun k5 qk5 => ?_)
      · refine qv_iconst (v := 0) (pc := 63) g dX10_restore_63 (by decide) ?_
        refine qv_istore_n (pc := 64) (lv1 := [(1, .int 0), (0, .ref (X.2.2.2 + t))]) g dX10_restore_64 rfl (by decide) rfl ?_
        refine qv_join (fun (k7 : qv_Mem → Option (Int32 × qv_Mem)) => ∀ (M6 : qv_Mem), qv_V G X 2 (qv_QM G X T qv_eIM (0, 0)) T (0, 0) 88 [(0, .ref (X.2.2.2 + t))] [] M6 (k7 M6)) (fun M6 => ?_) (fun k7 qk7 => ?_)
        · refine qv_iconst (v := 0) (pc := 88) g dX10_restore_88 (by decide) ?_
          refine qv_istore_n (pc := 89) (lv1 := [(1, .int 0), (0, .ref (X.2.2.2 + t))]) g dX10_restore_89 rfl (by decide) rfl ?_
          refine qv_join (fun (k9 : qv_Mem → Option (Int32 × qv_Mem)) => ∀ (M8 : qv_Mem), qv_V G X 2 (qv_QM G X T qv_eIM (0, 0)) T (0, 0) 114 [(0, .ref (X.2.2.2 + t))] [] M8 (k9 M8)) (fun M8 => ?_) (fun k9 qk9 => ?_)
          · refine qv_aload_n (pc := 114) g dX10_restore_114 rfl rfl ?_
            refine qv_iconst (v := 0) (pc := 115) g dX10_restore_115 (by decide) ?_
            refine qv_puti (pc := 116) g pw_RX10_184 ht (by decide) (by decide) rfl dX10_restore_116 (fun M10 => ?_)
            refine qv_aload_n (pc := 119) g dX10_restore_119 rfl rfl ?_
            refine qv_aI rfl (qv_cv (pc := 120) g (c_X10_all (gl G) X d T _ M10 ht) (qv_R hRm (by omega) (by decide)) ⟨Nat.zero_le _, Nat.zero_le _⟩ mw_X10_all lk_RX10_261 im_X10_all se_X10_all (by decide) rfl ht pd_X10_all rfl (Nat.le_of_ble_eq_true rfl) dX10_restore_120) (fun v11 => ?_)
            exact qv_iret (pc := 123) g hr rfl dX10_restore_123
          refine qv_lv [1, 0] rfl ?_
          exact qv_L2 (Vh := fun (v12 : Int32) (M13 : qv_Mem) o => qv_V G X 2 (qv_QM G X T qv_eIM (0, 0)) T (0, 0) 90 [(0, .ref (X.2.2.2 + t)), (1, .int v12)] [] M13 o) (fun _ _ => qv_none) (fun r14 qr14 v12 M13 => by
            unfold b_X10_restore_90
            refine qv_iload_n (pc := 90) g dX10_restore_90 rfl rfl ?_
            refine qv_bipush (v := 7) (pc := 91) g dX10_restore_91 (by decide) ?_
            refine qv_icmp_ge (pc := 93) (tgt := 114) g dX10_restore_93 (by decide) ?_ ?_
            · refine qv_lv [0] rfl ?_
              exact qk9 _
            · refine qv_aload_n (pc := 96) g dX10_restore_96 rfl rfl ?_
              have h1 : qv_is _ T 20 7 (qv_rf T t 3) := ht.to 3 (by decide) (by decide) rfl
              refine qv_getr (pc := 97) g fw_RX10_21 ht (by decide) (by decide) rfl dX10_restore_97 ?_
              refine qv_iload_n (pc := 100) g dX10_restore_100 rfl rfl ?_
              refine qv_aload_n (pc := 101) g dX10_restore_101 rfl rfl ?_
              have h2 : qv_is _ T 20 7 (qv_rf T t 4) := ht.to 4 (by decide) (by decide) rfl
              refine qv_getr (pc := 102) g fw_RX10_25 ht (by decide) (by decide) rfl dX10_restore_102 ?_
              refine qv_iload_n (pc := 105) g dX10_restore_105 rfl rfl ?_
              refine qv_iald (pc := 106) g h2 dX10_restore_106 (fun v15 => ?_)
              refine qv_iast (pc := 107) g h1 dX10_restore_107 (fun M16 => ?_)
              refine qv_iinc (pc := 108) (v := (v12 + 1)) (lv1 := [(1, .int (v12 + 1)), (0, .ref (X.2.2.2 + t))]) g dX10_restore_108 rfl rfl (by decide) rfl ?_
              refine qv_goto (pc := 111) (tgt := 90) g dX10_restore_111 (by decide) ?_
              refine qv_lv [1, 0] rfl ?_
              exact qr14 _ _) _ _ _
        refine qv_lv [1, 0] rfl ?_
        exact qv_L2 (Vh := fun (v17 : Int32) (M18 : qv_Mem) o => qv_V G X 2 (qv_QM G X T qv_eIM (0, 0)) T (0, 0) 65 [(0, .ref (X.2.2.2 + t)), (1, .int v17)] [] M18 o) (fun _ _ => qv_none) (fun r19 qr19 v17 M18 => by
          unfold b_X10_restore_65
          refine qv_iload_n (pc := 65) g dX10_restore_65 rfl rfl ?_
          refine qv_iconst (v := 3) (pc := 66) g dX10_restore_66 (by decide) ?_
          refine qv_icmp_ge (pc := 67) (tgt := 88) g dX10_restore_67 (by decide) ?_ ?_
          · refine qv_lv [0] rfl ?_
            exact qk7 _
          · refine qv_aload_n (pc := 70) g dX10_restore_70 rfl rfl ?_
            have h3 : qv_is _ T 20 3 (qv_rf T t 6) := ht.to 6 (by decide) (by decide) rfl
            refine qv_getr (pc := 71) g fw_RX10_31 ht (by decide) (by decide) rfl dX10_restore_71 ?_
            refine qv_iload_n (pc := 74) g dX10_restore_74 rfl rfl ?_
            refine qv_aload_n (pc := 75) g dX10_restore_75 rfl rfl ?_
            have h4 : qv_is _ T 20 3 (qv_rf T t 8) := ht.to 8 (by decide) (by decide) rfl
            refine qv_getr (pc := 76) g fw_RX10_37 ht (by decide) (by decide) rfl dX10_restore_76 ?_
            refine qv_iload_n (pc := 79) g dX10_restore_79 rfl rfl ?_
            refine qv_iald (pc := 80) g h4 dX10_restore_80 (fun v20 => ?_)
            refine qv_iast (pc := 81) g h3 dX10_restore_81 (fun M21 => ?_)
            refine qv_iinc (pc := 82) (v := (v17 + 1)) (lv1 := [(1, .int (v17 + 1)), (0, .ref (X.2.2.2 + t))]) g dX10_restore_82 rfl rfl (by decide) rfl ?_
            refine qv_goto (pc := 85) (tgt := 65) g dX10_restore_85 (by decide) ?_
            refine qv_lv [1, 0] rfl ?_
            exact qr19 _ _) _ _ _
      refine qv_lv [1, 0] rfl ?_
      exact qv_L2 (Vh := fun (v22 : Int32) (M23 : qv_Mem) o => qv_V G X 2 (qv_QM G X T qv_eIM (0, 0)) T (0, 0) 38 [(0, .ref (X.2.2.2 + t)), (1, .int v22)] [] M23 o) (fun _ _ => qv_none) (fun r24 qr24 v22 M23 => by
        unfold b_X10_restore_38
        refine qv_iload_n (pc := 38) g dX10_restore_38 rfl rfl ?_
        refine qv_sipush (v := 180) (pc := 39) g dX10_restore_39 (by decide) ?_
        refine qv_icmp_ge (pc := 42) (tgt := 63) g dX10_restore_42 (by decide) ?_ ?_
        · refine qv_lv [0] rfl ?_
          exact qk5 _
        · refine qv_aload_n (pc := 45) g dX10_restore_45 rfl rfl ?_
          have h5 : qv_is _ T 20 180 (qv_rf T t 5) := ht.to 5 (by decide) (by decide) rfl
          refine qv_getr (pc := 46) g fw_RX10_28 ht (by decide) (by decide) rfl dX10_restore_46 ?_
          refine qv_iload_n (pc := 49) g dX10_restore_49 rfl rfl ?_
          refine qv_aload_n (pc := 50) g dX10_restore_50 rfl rfl ?_
          have h6 : qv_is _ T 20 180 (qv_rf T t 7) := ht.to 7 (by decide) (by decide) rfl
          refine qv_getr (pc := 51) g fw_RX10_34 ht (by decide) (by decide) rfl dX10_restore_51 ?_
          refine qv_iload_n (pc := 54) g dX10_restore_54 rfl rfl ?_
          refine qv_iald (pc := 55) g h6 dX10_restore_55 (fun v25 => ?_)
          refine qv_iast (pc := 56) g h5 dX10_restore_56 (fun M26 => ?_)
          refine qv_iinc (pc := 57) (v := (v22 + 1)) (lv1 := [(1, .int (v22 + 1)), (0, .ref (X.2.2.2 + t))]) g dX10_restore_57 rfl rfl (by decide) rfl ?_
          refine qv_goto (pc := 60) (tgt := 38) g dX10_restore_60 (by decide) ?_
          refine qv_lv [1, 0] rfl ?_
          exact qr24 _ _) _ _ _
    refine qv_lv [1, 0] rfl ?_
    exact qv_L2 (Vh := fun (v27 : Int32) (M28 : qv_Mem) o => qv_V G X 2 (qv_QM G X T qv_eIM (0, 0)) T (0, 0) 12 [(0, .ref (X.2.2.2 + t)), (1, .int v27)] [] M28 o) (fun _ _ => qv_none) (fun r29 qr29 v27 M28 => by
      unfold b_X10_restore_12
      refine qv_iload_n (pc := 12) g dX10_restore_12 rfl rfl ?_
      refine qv_bipush (v := 68) (pc := 13) g dX10_restore_13 (by decide) ?_
      refine qv_icmp_ge (pc := 15) (tgt := 36) g dX10_restore_15 (by decide) ?_ ?_
      · refine qv_lv [0] rfl ?_
        exact qk3 _
      · refine qv_aload_n (pc := 18) g dX10_restore_18 rfl rfl ?_
        have h7 : qv_is _ T 21 340 (qv_rf T t 0) := ht.to 0 (by decide) (by decide) rfl
        refine qv_getr (pc := 19) g fw_RX10_11 ht (by decide) (by decide) rfl dX10_restore_19 ?_
        refine qv_iload_n (pc := 22) g dX10_restore_22 rfl rfl ?_
        refine qv_aload_n (pc := 23) g dX10_restore_23 rfl rfl ?_
        have h8 : qv_is _ T 21 68 (qv_rf T t 2) := ht.to 2 (by decide) (by decide) rfl
        refine qv_getr (pc := 24) g fw_RX10_18 ht (by decide) (by decide) rfl dX10_restore_24 ?_
        refine qv_iload_n (pc := 27) g dX10_restore_27 rfl rfl ?_
        refine qv_lald (pc := 28) g h8 dX10_restore_28 (fun v30 => ?_)
        refine qv_last (pc := 29) g h7 dX10_restore_29 (fun M31 => ?_)
        refine qv_iinc (pc := 30) (v := (v27 + 1)) (lv1 := [(1, .int (v27 + 1)), (0, .ref (X.2.2.2 + t))]) g dX10_restore_30 rfl rfl (by decide) rfl ?_
        refine qv_goto (pc := 33) (tgt := 12) g dX10_restore_33 (by decide) ?_
        refine qv_lv [1, 0] rfl ?_
        exact qr29 _ _) _ _ _
  · refine qv_bipush (v := (-5)) (pc := 7) g dX10_restore_7 (by decide) ?_
    exact qv_iret (pc := 9) g hr rfl dX10_restore_9

set_option maxHeartbeats 4000000 in
set_option maxRecDepth 100000 in
theorem c_X10_told (l : Launch) (X : qv_X) (d : Nat) (T : List qv_Ent) (t : Nat) (p1 : Int32) (M : qv_Mem) {nt : Nat} (ht : qv_is (nt + 1) T 10 29 t) : qv_Ok l X yX10_told cX10_told 6 (some .int) (d + 1) T M [.ref (X.2.2.2 + t), .int p1] (qv_eI M) (f_X10_told T t p1 M) := by
  refine qv_mk (lv := [(0, .ref (X.2.2.2 + t)), (1, .int p1)]) (by decide) (Nat.le_of_ble_eq_true rfl) rfl (fun G hG hRm g hr => ?_)
  have g : qv_ok G X cX10_told RX10 6 := g
  unfold f_X10_told
  refine qv_iload_n (pc := 0) g dX10_told_0 rfl rfl ?_
  refine qv_i2l (pc := 1) g dX10_told_1 ?_
  refine qv_lconst (v := 0) (pc := 2) g dX10_told_2 (by decide) ?_
  refine qv_ldc2 (pc := 3) g kl_RX10_169 dX10_told_3 ?_
  refine qv_aI rfl (qv_cs (pc := 6) g (c_X10_isIn (gl G) X d T _ _ _ M) (qv_R hRm (by omega) (by decide)) ⟨Nat.zero_le _, Nat.zero_le _⟩ mw_X10_isIn lk_RX10_120 st_X10_isIn pd_X10_isIn rfl (Nat.le_of_ble_eq_true rfl) dX10_told_6) (fun v1 => ?_)
  refine qv_if_ne (pc := 9) (tgt := 14) g dX10_told_9 (by decide) ?_ ?_
  · refine qv_iconst (v := 0) (pc := 14) g dX10_told_14 (by decide) ?_
    refine qv_istore_n (pc := 15) (lv1 := [(2, .int 0), (0, .ref (X.2.2.2 + t)), (1, .int p1)]) g dX10_told_15 rfl (by decide) rfl ?_
    refine qv_iconst (v := 0) (pc := 16) g dX10_told_16 (by decide) ?_
    refine qv_istore_n (pc := 17) (lv1 := [(3, .int 0), (2, .int 0), (0, .ref (X.2.2.2 + t)), (1, .int p1)]) g dX10_told_17 rfl (by decide) rfl ?_
    refine qv_join (fun (k3 : Int32 → Option Int32) => ∀ (v2 : Int32), qv_V G X 6 (qv_QM G X T (qv_eI M) (0, 0)) T (0, 0) 39 [(0, .ref (X.2.2.2 + t)), (1, .int p1), (2, .int v2)] [] M (k3 v2)) (fun v2 => ?_) (fun k3 qk3 => ?_)
    · refine qv_iconst (v := 0) (pc := 39) g dX10_told_39 (by decide) ?_
      refine qv_istore_n (pc := 40) (lv1 := [(3, .int 0), (0, .ref (X.2.2.2 + t)), (1, .int p1), (2, .int v2)]) g dX10_told_40 rfl (by decide) rfl ?_
      refine qv_iconst (v := 0) (pc := 41) g dX10_told_41 (by decide) ?_
      refine qv_istore (pc := 42) (lv1 := [(4, .int 0), (3, .int 0), (0, .ref (X.2.2.2 + t)), (1, .int p1), (2, .int v2)]) g dX10_told_42 (by decide) rfl ?_
      refine qv_join (fun (k5 : Int32 → Option Int32) => ∀ (v4 : Int32), qv_V G X 6 (qv_QM G X T (qv_eI M) (0, 0)) T (0, 0) 104 [(0, .ref (X.2.2.2 + t)), (1, .int p1), (2, .int v2), (3, .int v4)] [] M (k5 v4)) (fun v4 => ?_) (fun k5 qk5 => ?_)
      · refine qv_iload_n (pc := 104) g dX10_told_104 rfl rfl ?_
        refine qv_if_ne (pc := 105) (tgt := 115) g dX10_told_105 (by decide) ?_ ?_
        · refine qv_iload_n (pc := 115) g dX10_told_115 rfl rfl ?_
          refine qv_iconst (v := 1) (pc := 116) g dX10_told_116 (by decide) ?_
          refine qv_icmp_ne (pc := 117) (tgt := 127) g dX10_told_117 (by decide) ?_ ?_
          · refine qv_iload_n (pc := 127) g dX10_told_127 rfl rfl ?_
            refine qv_iconst (v := 2) (pc := 128) g dX10_told_128 (by decide) ?_
            refine qv_icmp_ne (pc := 129) (tgt := 136) g dX10_told_129 (by decide) ?_ ?_
            · refine qv_iload_n (pc := 136) g dX10_told_136 rfl rfl ?_
              exact qv_iret (pc := 137) g hr rfl dX10_told_137
            · refine qv_iload_n (pc := 132) g dX10_told_132 rfl rfl ?_
              refine qv_goto (pc := 133) (tgt := 137) g dX10_told_133 (by decide) ?_
              exact qv_iret (pc := 137) g hr rfl dX10_told_137
          · refine qv_aload_n (pc := 120) g dX10_told_120 rfl rfl ?_
            refine qv_gets (pc := 121) g fw_RX10_218 ht (by decide) (by decide) rfl dX10_told_121 (fun v6 => ?_)
            refine qv_goto (pc := 124) (tgt := 137) g dX10_told_124 (by decide) ?_
            exact qv_iret (pc := 137) g hr rfl dX10_told_137
        · refine qv_aload_n (pc := 108) g dX10_told_108 rfl rfl ?_
          refine qv_gets (pc := 109) g fw_RX10_184 ht (by decide) (by decide) rfl dX10_told_109 (fun v7 => ?_)
          refine qv_goto (pc := 112) (tgt := 137) g dX10_told_112 (by decide) ?_
          exact qv_iret (pc := 137) g hr rfl dX10_told_137
      refine qv_lv [2, 3, 4, 1, 0] rfl ?_
      exact qv_L2 (Vh := fun (v8 : Int32) (v9 : Int32) o => qv_V G X 6 (qv_QM G X T (qv_eI M) (0, 0)) T (0, 0) 44 [(0, .ref (X.2.2.2 + t)), (1, .int p1), (2, .int v2), (3, .int v8), (4, .int v9)] [] M o) (fun _ _ => qv_none) (fun r10 qr10 v8 v9 => by
        unfold b_X10_told_44
        refine qv_iload (pc := 44) g dX10_told_44 rfl ?_
        refine qv_iconst (v := 3) (pc := 46) g dX10_told_46 (by decide) ?_
        refine qv_icmp_ge (pc := 47) (tgt := 104) g dX10_told_47 (by decide) ?_ ?_
        · refine qv_lv [0, 1, 2, 3] rfl ?_
          exact qk5 _
        · refine qv_iconst (v := 0) (pc := 50) g dX10_told_50 (by decide) ?_
          refine qv_istore (pc := 51) (lv1 := [(5, .int 0), (0, .ref (X.2.2.2 + t)), (1, .int p1), (2, .int v2), (3, .int v8), (4, .int v9)]) g dX10_told_51 (by decide) rfl ?_
          refine qv_join (fun (k12 : Int32 → Option Int32) => ∀ (v11 : Int32), qv_V G X 6 (qv_QM G X T (qv_eI M) (0, 0)) T (0, 0) 98 [(0, .ref (X.2.2.2 + t)), (1, .int p1), (2, .int v2), (3, .int v11), (4, .int v9)] [] M (k12 v11)) (fun v11 => ?_) (fun k12 qk12 => ?_)
          · refine qv_iinc (pc := 98) (v := (v9 + 1)) (lv1 := [(4, .int (v9 + 1)), (0, .ref (X.2.2.2 + t)), (1, .int p1), (2, .int v2), (3, .int v11)]) g dX10_told_98 rfl rfl (by decide) rfl ?_
            refine qv_goto (pc := 101) (tgt := 44) g dX10_told_101 (by decide) ?_
            refine qv_lv [1, 2, 3, 4, 0] rfl ?_
            exact qr10 _ _
          refine qv_lv [1, 2, 3, 4, 5, 0] rfl ?_
          exact qv_L2 (Vh := fun (v13 : Int32) (v14 : Int32) o => qv_V G X 6 (qv_QM G X T (qv_eI M) (0, 0)) T (0, 0) 53 [(0, .ref (X.2.2.2 + t)), (1, .int p1), (2, .int v2), (3, .int v13), (4, .int v9), (5, .int v14)] [] M o) (fun _ _ => qv_none) (fun r15 qr15 v13 v14 => by
            unfold b_X10_told_53
            refine qv_iload (pc := 53) g dX10_told_53 rfl ?_
            refine qv_aload_n (pc := 55) g dX10_told_55 rfl rfl ?_
            have h1 : qv_is _ T 20 3 (qv_rf T t 6) := ht.to 6 (by decide) (by decide) rfl
            refine qv_getr (pc := 56) g fw_RX10_31 ht (by decide) (by decide) rfl dX10_told_56 ?_
            refine qv_iload (pc := 59) g dX10_told_59 rfl ?_
            refine qv_iald (pc := 61) g h1 dX10_told_61 (fun v16 => ?_)
            refine qv_icmp_ge (pc := 62) (tgt := 98) g dX10_told_62 (by decide) ?_ ?_
            · refine qv_lv [0, 1, 2, 3, 4] rfl ?_
              exact qk12 _
            · refine qv_iload_n (pc := 65) g dX10_told_65 rfl rfl ?_
              refine qv_aload_n (pc := 66) g dX10_told_66 rfl rfl ?_
              have h2 : qv_is _ T 20 180 (qv_rf T t 5) := ht.to 5 (by decide) (by decide) rfl
              refine qv_getr (pc := 67) g fw_RX10_28 ht (by decide) (by decide) rfl dX10_told_67 ?_
              refine qv_bipush (v := 60) (pc := 70) g dX10_told_70 (by decide) ?_
              refine qv_iload (pc := 72) g dX10_told_72 rfl ?_
              refine qv_imul (pc := 74) g dX10_told_74 ?_
              refine qv_iload (pc := 75) g dX10_told_75 rfl ?_
              refine qv_iadd (pc := 77) g dX10_told_77 ?_
              refine qv_iald (pc := 78) g h2 dX10_told_78 (fun v17 => ?_)
              refine qv_iload_n (pc := 79) g dX10_told_79 rfl rfl ?_
              refine qv_iconst (v := 3) (pc := 80) g dX10_told_80 (by decide) ?_
              refine qv_isub (pc := 81) g dX10_told_81 ?_
              refine qv_join (fun (k19 : Int32 → Option Int32) => ∀ (v18 : Int32), qv_V G X 6 (qv_QM G X T (qv_eI M) (0, 0)) T (0, 0) 90 [(0, .ref (X.2.2.2 + t)), (1, .int p1), (2, .int v2), (4, .int v9), (5, .int v14)] [.int v18, .int v13] M (k19 v18)) (fun v18 => ?_) (fun k19 qk19 => ?_)
              · refine qv_iadd (pc := 90) g dX10_told_90 ?_
                refine qv_istore_n (pc := 91) (lv1 := [(3, .int (v13 + v18)), (0, .ref (X.2.2.2 + t)), (1, .int p1), (2, .int v2), (4, .int v9), (5, .int v14)]) g dX10_told_91 rfl (by decide) rfl ?_
                refine qv_iinc (pc := 92) (v := (v14 + 1)) (lv1 := [(5, .int (v14 + 1)), (3, .int (v13 + v18)), (0, .ref (X.2.2.2 + t)), (1, .int p1), (2, .int v2), (4, .int v9)]) g dX10_told_92 rfl rfl (by decide) rfl ?_
                refine qv_goto (pc := 95) (tgt := 53) g dX10_told_95 (by decide) ?_
                refine qv_lv [2, 3, 4, 1, 5, 0] rfl ?_
                exact qr15 _ _
              refine qv_icmp_ne (pc := 82) (tgt := 89) g dX10_told_82 (by decide) ?_ ?_
              · refine qv_iconst (v := 0) (pc := 89) g dX10_told_89 (by decide) ?_
                refine qv_lv [0, 1, 2, 4, 5] rfl ?_
                exact qk19 _
              · refine qv_iconst (v := 1) (pc := 85) g dX10_told_85 (by decide) ?_
                refine qv_goto (pc := 86) (tgt := 90) g dX10_told_86 (by decide) ?_
                refine qv_lv [0, 1, 2, 4, 5] rfl ?_
                exact qk19 _) _ _ _) _ _ _
    refine qv_lv [2, 3, 1, 0] rfl ?_
    exact qv_L2 (Vh := fun (v20 : Int32) (v21 : Int32) o => qv_V G X 6 (qv_QM G X T (qv_eI M) (0, 0)) T (0, 0) 18 [(0, .ref (X.2.2.2 + t)), (1, .int p1), (2, .int v20), (3, .int v21)] [] M o) (fun _ _ => qv_none) (fun r22 qr22 v20 v21 => by
      unfold b_X10_told_18
      refine qv_iload_n (pc := 18) g dX10_told_18 rfl rfl ?_
      refine qv_bipush (v := 7) (pc := 19) g dX10_told_19 (by decide) ?_
      refine qv_icmp_ge (pc := 21) (tgt := 39) g dX10_told_21 (by decide) ?_ ?_
      · refine qv_lv [0, 1, 2] rfl ?_
        exact qk3 _
      · refine qv_iload_n (pc := 24) g dX10_told_24 rfl rfl ?_
        refine qv_aload_n (pc := 25) g dX10_told_25 rfl rfl ?_
        have h3 : qv_is _ T 20 7 (qv_rf T t 3) := ht.to 3 (by decide) (by decide) rfl
        refine qv_getr (pc := 26) g fw_RX10_21 ht (by decide) (by decide) rfl dX10_told_26 ?_
        refine qv_iload_n (pc := 29) g dX10_told_29 rfl rfl ?_
        refine qv_iald (pc := 30) g h3 dX10_told_30 (fun v23 => ?_)
        refine qv_iadd (pc := 31) g dX10_told_31 ?_
        refine qv_istore_n (pc := 32) (lv1 := [(2, .int (v20 + v23)), (0, .ref (X.2.2.2 + t)), (1, .int p1), (3, .int v21)]) g dX10_told_32 rfl (by decide) rfl ?_
        refine qv_iinc (pc := 33) (v := (v21 + 1)) (lv1 := [(3, .int (v21 + 1)), (2, .int (v20 + v23)), (0, .ref (X.2.2.2 + t)), (1, .int p1)]) g dX10_told_33 rfl rfl (by decide) rfl ?_
        refine qv_goto (pc := 36) (tgt := 18) g dX10_told_36 (by decide) ?_
        refine qv_lv [2, 3, 1, 0] rfl ?_
        exact qr22 _ _) _ _ _
  · refine qv_iconst (v := (-1)) (pc := 12) g dX10_told_12 (by decide) ?_
    exact qv_iret (pc := 13) g hr rfl dX10_told_13

