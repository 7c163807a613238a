theorem qv_T {α : Type} {G : qv_G} {X : qv_X} {nL : Nat} {Q : α → State → Prop} {T T1 : List qv_Ent} {cs : Nat × Nat} {pc : Nat} {lv : List (Nat × Value)} {st : List Value} {M : qv_Mem} {o : Option α} (h : T = T1) (k : qv_V G X nL Q T1 cs pc lv st M o) : qv_V G X nL Q T cs pc lv st M o := by rw [h]; exact k
theorem qv_ln {T0 L : List qv_Ent} {b k : Nat} (hb : T0.length = b) (hk : L.length = k) : (T0 ++ L).length = b + k := by rw [List.length_append, hb, hk]
def K_X7 (b : Nat) : List qv_Ent := [(7, 2, [some (some (b + 1)), none]), (21, 16, [])]
noncomputable def g_X7 (T0 : List qv_Ent) (b : Nat) (M : qv_Mem) : Option qv_Mem :=
 qv_al (b + 1) M (fun M1 =>
 qv_pS (b) 1 0 M1 (fun M2 =>
 qv_bo (f_X7_makeUnit (T0 ++ [(7, 2, [some (some (b + 1)), none]), (21, 16, [])]) b M2) (fun M3 =>
 some M3)))
set_option maxHeartbeats 4000000 in
set_option maxRecDepth 100000 in
theorem c_X7_init (l : Launch) (X : qv_X) (d : Nat) (T0 : List qv_Ent) (b : Nat) (hb : T0.length = b) (M : qv_Mem) : qv_OkC l X yX7_init cX7_init 1 (d + 2) 1 16 (T0 ++ [(7, 2, [some none, none])]) (T0 ++ K_X7 b) M [.ref (X.2.2.2 + b)] (g_X7 T0 b M) := by
  refine qv_mkC (lv := [(0, .ref (X.2.2.2 + b))]) (by decide) (Nat.le_of_ble_eq_true rfl) rfl rfl (fun G hG hRm g hr hin => ?_)
  have g : qv_ok G X cX7_init RX7 1 := g
  unfold g_X7
  refine qv_aload_n (pc := 0) g dX7_init_0 rfl rfl ?_
  refine qv_obj (pc := 1) g lk_RX7_3 im_obj cd_obj (Nat.le_of_ble_eq_true rfl) dX7_init_1 ?_
  refine qv_aload_n (pc := 4) g dX7_init_4 rfl rfl ?_
  refine qv_bipush (v := 16) (pc := 5) g dX7_init_5 (by decide) ?_
  refine qv_newL (pc := 7) (n := 16) (id := b + 1) g ac_long (by decide) (by decide) (by decide) (qv_ln hb rfl) (qv_cC hRm (by decide) (by decide)) dX7_init_7 (fun M1 => ?_)
  refine qv_T (T1 := (T0 ++ [(7, 2, [some none, none]), (21, 16, [])])) (List.append_assoc _ _ _) ?_
  refine qv_putF (pc := 9) (T1 := (T0 ++ [(7, 2, [some (some (b + 1)), none]), (21, 16, [])])) g pw_RX7_11 rfl hin (by decide) (qv_at hb (k := 0) rfl) (Nat.le_of_ble_eq_true rfl) rfl (qv_st hb 0 _) rfl rfl dX7_init_9 ?_
  refine qv_aload_n (pc := 12) g dX7_init_12 rfl rfl ?_
  refine qv_iconst (v := 0) (pc := 13) g dX7_init_13 (by decide) ?_
  refine qv_put1 (pc := 14) g pw_RX7_15 rfl rfl (by decide) (qv_at hb (k := 0) rfl) (Nat.le_of_ble_eq_true rfl) rfl dX7_init_14 (fun M2 => ?_)
  refine qv_aload_n (pc := 17) g dX7_init_17 rfl rfl ?_
  have ht : qv_is (0 + 1) (T0 ++ [(7, 2, [some (some (b + 1)), none]), (21, 16, [])]) 7 2 b := ⟨_, qv_at hb (k := 0) rfl, Or.inr (Or.inr ⟨rfl, fun k hk => by
    match k, hk with
    | 0, _ => exact ⟨b + 1, rfl, ⟨_, qv_at hb (k := 1) rfl⟩⟩
    | 1, _ => exact rfl
    | k + 2, hk => exact absurd hk (by show ¬ k + 2 < 2; omega)⟩)⟩
  refine qv_aV (qv_cv (pc := 18) g (c_X7_makeUnit (gl G) X d (T0 ++ [(7, 2, [some (some (b + 1)), none]), (21, 16, [])]) _ M2 ht) (qv_RC hRm (by omega) (by decide)) (qv_cC hRm (by decide) (by decide)) mw_X7_makeUnit lk_RX7_19 im_X7_makeUnit se_X7_makeUnit (by decide) rfl ht pd_X7_makeUnit rfl (Nat.le_of_ble_eq_true rfl) dX7_init_18) (fun M3 => ?_)
  exact qv_vret (pc := 21) g hr rfl dX7_init_21

def K_X6 (b : Nat) : List qv_Ent := [(6, 2, [some (some (b + 1)), none]), (20, 60, [])]
noncomputable def g_X6 (T0 : List qv_Ent) (b : Nat) (M : qv_Mem) : Option qv_Mem :=
 qv_al (b + 1) M (fun M1 =>
 qv_pS (b) 1 0 M1 (fun M2 =>
 some M2))
set_option maxHeartbeats 4000000 in
set_option maxRecDepth 100000 in
theorem c_X6_init (l : Launch) (X : qv_X) (d : Nat) (T0 : List qv_Ent) (b : Nat) (hb : T0.length = b) (M : qv_Mem) : qv_OkC l X yX6_init cX6_init 1 (d) 1 60 (T0 ++ [(6, 2, [some none, none])]) (T0 ++ K_X6 b) M [.ref (X.2.2.2 + b)] (g_X6 T0 b M) := by
  refine qv_mkC (lv := [(0, .ref (X.2.2.2 + b))]) (by decide) (Nat.le_of_ble_eq_true rfl) rfl rfl (fun G hG hRm g hr hin => ?_)
  have g : qv_ok G X cX6_init RX6 1 := g
  unfold g_X6
  refine qv_aload_n (pc := 0) g dX6_init_0 rfl rfl ?_
  refine qv_obj (pc := 1) g lk_RX6_3 im_obj cd_obj (Nat.le_of_ble_eq_true rfl) dX6_init_1 ?_
  refine qv_aload_n (pc := 4) g dX6_init_4 rfl rfl ?_
  refine qv_bipush (v := 60) (pc := 5) g dX6_init_5 (by decide) ?_
  refine qv_newI (pc := 7) (n := 60) (id := b + 1) g ac_int (by decide) (by decide) (by decide) (qv_ln hb rfl) (qv_cC hRm (by decide) (by decide)) dX6_init_7 (fun M1 => ?_)
  refine qv_T (T1 := (T0 ++ [(6, 2, [some none, none]), (20, 60, [])])) (List.append_assoc _ _ _) ?_
  refine qv_putF (pc := 9) (T1 := (T0 ++ [(6, 2, [some (some (b + 1)), none]), (20, 60, [])])) g pw_RX6_9 rfl hin (by decide) (qv_at hb (k := 0) rfl) (Nat.le_of_ble_eq_true rfl) rfl (qv_st hb 0 _) rfl rfl dX6_init_9 ?_
  refine qv_aload_n (pc := 12) g dX6_init_12 rfl rfl ?_
  refine qv_iconst (v := 0) (pc := 13) g dX6_init_13 (by decide) ?_
  refine qv_put1 (pc := 14) g pw_RX6_15 rfl rfl (by decide) (qv_at hb (k := 0) rfl) (Nat.le_of_ble_eq_true rfl) rfl dX6_init_14 (fun M2 => ?_)
  exact qv_vret (pc := 17) g hr rfl dX6_init_17

def K_X0 (b : Nat) : List qv_Ent := [(0, 3, [some (some (b + 1)), some (some (b + 2)), some (some (b + 3))]), (37, 4, [some (some (b + 4)), some (some (b + 6)), some (some (b + 8)), some (some (b + 10))]), (36, 3, [some (some (b + 12)), some (some (b + 14)), some (some (b + 16))]), (20, 7, []), (7, 2, [some (some (b + 5)), none]), (21, 16, []), (7, 2, [some (some (b + 7)), none]), (21, 16, []), (7, 2, [some (some (b + 9)), none]), (21, 16, []), (7, 2, [some (some (b + 11)), none]), (21, 16, []), (6, 2, [some (some (b + 13)), none]), (20, 60, []), (6, 2, [some (some (b + 15)), none]), (20, 60, []), (6, 2, [some (some (b + 17)), none]), (20, 60, [])]
noncomputable def g_X0 (T0 : List qv_Ent) (b : Nat) (M : qv_Mem) : Option qv_Mem :=
 qv_al (b + 1) M (fun M1 =>
 qv_al (b + 2) M1 (fun M2 =>
 qv_al (b + 3) M2 (fun M3 =>
 qv_al (b + 4) M3 (fun M4 =>
 qv_bo (g_X7 (T0 ++ [(0, 3, [some (some (b + 1)), some (some (b + 2)), some (some (b + 3))]), (37, 4, [some none, some none, some none, some none]), (36, 3, [some none, some none, some none]), (20, 7, [])]) (b + 4) M4) (fun M5 =>
 qv_al (b + 6) M5 (fun M6 =>
 qv_bo (g_X7 (T0 ++ [(0, 3, [some (some (b + 1)), some (some (b + 2)), some (some (b + 3))]), (37, 4, [some (some (b + 4)), some none, some none, some none]), (36, 3, [some none, some none, some none]), (20, 7, []), (7, 2, [some (some (b + 5)), none]), (21, 16, [])]) (b + 6) M6) (fun M7 =>
 qv_al (b + 8) M7 (fun M8 =>
 qv_bo (g_X7 (T0 ++ [(0, 3, [some (some (b + 1)), some (some (b + 2)), some (some (b + 3))]), (37, 4, [some (some (b + 4)), some (some (b + 6)), some none, some none]), (36, 3, [some none, some none, some none]), (20, 7, []), (7, 2, [some (some (b + 5)), none]), (21, 16, []), (7, 2, [some (some (b + 7)), none]), (21, 16, [])]) (b + 8) M8) (fun M9 =>
 qv_al (b + 10) M9 (fun M10 =>
 qv_bo (g_X7 (T0 ++ [(0, 3, [some (some (b + 1)), some (some (b + 2)), some (some (b + 3))]), (37, 4, [some (some (b + 4)), some (some (b + 6)), some (some (b + 8)), some none]), (36, 3, [some none, some none, some none]), (20, 7, []), (7, 2, [some (some (b + 5)), none]), (21, 16, []), (7, 2, [some (some (b + 7)), none]), (21, 16, []), (7, 2, [some (some (b + 9)), none]), (21, 16, [])]) (b + 10) M10) (fun M11 =>
 qv_al (b + 12) M11 (fun M12 =>
 qv_bo (g_X6 (T0 ++ [(0, 3, [some (some (b + 1)), some (some (b + 2)), some (some (b + 3))]), (37, 4, [some (some (b + 4)), some (some (b + 6)), some (some (b + 8)), some (some (b + 10))]), (36, 3, [some none, some none, some none]), (20, 7, []), (7, 2, [some (some (b + 5)), none]), (21, 16, []), (7, 2, [some (some (b + 7)), none]), (21, 16, []), (7, 2, [some (some (b + 9)), none]), (21, 16, []), (7, 2, [some (some (b + 11)), none]), (21, 16, [])]) (b + 12) M12) (fun M13 =>
 qv_al (b + 14) M13 (fun M14 =>
 qv_bo (g_X6 (T0 ++ [(0, 3, [some (some (b + 1)), some (some (b + 2)), some (some (b + 3))]), (37, 4, [some (some (b + 4)), some (some (b + 6)), some (some (b + 8)), some (some (b + 10))]), (36, 3, [some (some (b + 12)), some none, some none]), (20, 7, []), (7, 2, [some (some (b + 5)), none]), (21, 16, []), (7, 2, [some (some (b + 7)), none]), (21, 16, []), (7, 2, [some (some (b + 9)), none]), (21, 16, []), (7, 2, [some (some (b + 11)), none]), (21, 16, []), (6, 2, [some (some (b + 13)), none]), (20, 60, [])]) (b + 14) M14) (fun M15 =>
 qv_al (b + 16) M15 (fun M16 =>
 qv_bo (g_X6 (T0 ++ [(0, 3, [some (some (b + 1)), some (some (b + 2)), some (some (b + 3))]), (37, 4, [some (some (b + 4)), some (some (b + 6)), some (some (b + 8)), some (some (b + 10))]), (36, 3, [some (some (b + 12)), some (some (b + 14)), some none]), (20, 7, []), (7, 2, [some (some (b + 5)), none]), (21, 16, []), (7, 2, [some (some (b + 7)), none]), (21, 16, []), (7, 2, [some (some (b + 9)), none]), (21, 16, []), (7, 2, [some (some (b + 11)), none]), (21, 16, []), (6, 2, [some (some (b + 13)), none]), (20, 60, []), (6, 2, [some (some (b + 15)), none]), (20, 60, [])]) (b + 16) M16) (fun M17 =>
 qv_stI 7 (b + 3) 0 1 M17 (fun M18 =>
 qv_stI 7 (b + 3) 1 1 M18 (fun M19 =>
 qv_stI 7 (b + 3) 2 1 M19 (fun M20 =>
 qv_stI 7 (b + 3) 3 1 M20 (fun M21 =>
 qv_stI 7 (b + 3) 4 1 M21 (fun M22 =>
 qv_stI 7 (b + 3) 5 1 M22 (fun M23 =>
 qv_stI 7 (b + 3) 6 1 M23 (fun M24 =>
 some M24))))))))))))))))))))))))
set_option maxHeartbeats 4000000 in
set_option maxRecDepth 100000 in
theorem c_X0_init (l : Launch) (X : qv_X) (d : Nat) (T0 : List qv_Ent) (b : Nat) (hb : T0.length = b) (M : qv_Mem) : qv_OkC l X yX0_init cX0_init 2 (d + 3) 17 272 (T0 ++ [(0, 3, [some none, some none, some none])]) (T0 ++ K_X0 b) M [.ref (X.2.2.2 + b)] (g_X0 T0 b M) := by
  refine qv_mkC (lv := [(0, .ref (X.2.2.2 + b))]) (by decide) (Nat.le_of_ble_eq_true rfl) rfl rfl (fun G hG hRm g hr hin => ?_)
  have g : qv_ok G X cX0_init RX0 2 := g
  unfold g_X0
  refine qv_aload_n (pc := 0) g dX0_init_0 rfl rfl ?_
  refine qv_obj (pc := 1) g lk_RX0_3 im_obj cd_obj (Nat.le_of_ble_eq_true rfl) dX0_init_1 ?_
  refine qv_aload_n (pc := 4) g dX0_init_4 rfl rfl ?_
  refine qv_iconst (v := 4) (pc := 5) g dX0_init_5 (by decide) ?_
  refine qv_newQ (pc := 6) (n := 4) (id := b + 1) (c := 37) g (by decide) ck_RX0_9 (by decide) (by decide) (by decide) (qv_ln hb rfl) (qv_cC hRm (by decide) (by decide)) dX0_init_6 (fun M1 => ?_)
  refine qv_T (T1 := (T0 ++ [(0, 3, [some none, some none, some none]), (37, 4, [some none, some none, some none, some none])])) (List.append_assoc _ _ _) ?_
  refine qv_putF (pc := 9) (T1 := (T0 ++ [(0, 3, [some (some (b + 1)), some none, some none]), (37, 4, [some none, some none, some none, some none])])) g pw_RX0_11 rfl hin (by decide) (qv_at hb (k := 0) rfl) (Nat.le_of_ble_eq_true rfl) rfl (qv_st hb 0 _) rfl rfl dX0_init_9 ?_
  refine qv_aload_n (pc := 12) g dX0_init_12 rfl rfl ?_
  refine qv_iconst (v := 3) (pc := 13) g dX0_init_13 (by decide) ?_
  refine qv_newQ (pc := 14) (n := 3) (id := b + 2) (c := 36) g (by decide) ck_RX0_17 (by decide) (by decide) (by decide) (qv_ln hb rfl) (qv_cC hRm (by decide) (by decide)) dX0_init_14 (fun M2 => ?_)
  refine qv_T (T1 := (T0 ++ [(0, 3, [some (some (b + 1)), some none, some none]), (37, 4, [some none, some none, some none, some none]), (36, 3, [some none, some none, some none])])) (List.append_assoc _ _ _) ?_
  refine qv_putF (pc := 17) (T1 := (T0 ++ [(0, 3, [some (some (b + 1)), some (some (b + 2)), some none]), (37, 4, [some none, some none, some none, some none]), (36, 3, [some none, some none, some none])])) g pw_RX0_19 rfl hin (by decide) (qv_at hb (k := 0) rfl) (Nat.le_of_ble_eq_true rfl) rfl (qv_st hb 0 _) rfl rfl dX0_init_17 ?_
  refine qv_aload_n (pc := 20) g dX0_init_20 rfl rfl ?_
  refine qv_bipush (v := 7) (pc := 21) g dX0_init_21 (by decide) ?_
  refine qv_newI (pc := 23) (n := 7) (id := b + 3) g ac_int (by decide) (by decide) (by decide) (qv_ln hb rfl) (qv_cC hRm (by decide) (by decide)) dX0_init_23 (fun M3 => ?_)
  refine qv_T (T1 := (T0 ++ [(0, 3, [some (some (b + 1)), some (some (b + 2)), some none]), (37, 4, [some none, some none, some none, some none]), (36, 3, [some none, some none, some none]), (20, 7, [])])) (List.append_assoc _ _ _) ?_
  refine qv_putF (pc := 25) (T1 := (T0 ++ [(0, 3, [some (some (b + 1)), some (some (b + 2)), some (some (b + 3))]), (37, 4, [some none, some none, some none, some none]), (36, 3, [some none, some none, some none]), (20, 7, [])])) g pw_RX0_23 rfl hin (by decide) (qv_at hb (k := 0) rfl) (Nat.le_of_ble_eq_true rfl) rfl (qv_st hb 0 _) rfl rfl dX0_init_25 ?_
  refine qv_iconst (v := 0) (pc := 28) g dX0_init_28 (by decide) ?_
  refine qv_istore_n (pc := 29) (lv1 := [(1, .int 0), (0, .ref (X.2.2.2 + b))]) g dX0_init_29 rfl (by decide) rfl ?_
  refine qv_iload_n (pc := 30) g dX0_init_30 rfl rfl ?_
  refine qv_iconst (v := 4) (pc := 31) g dX0_init_31 (by decide) ?_
  refine qv_geF (pc := 32) (tgt := 54) g dX0_init_32 (by decide) (by decide) ?_
  refine qv_aload_n (pc := 35) g dX0_init_35 rfl rfl ?_
  refine qv_get1 (pc := 36) (r := b + 1) g fw_RX0_11 (by decide) (qv_at hb (k := 0) rfl) rfl dX0_init_36 ?_
  refine qv_iload_n (pc := 39) g dX0_init_39 rfl rfl ?_
  refine qv_new (pc := 40) (n := 2) (id := b + 4) g nw_RX0_9 rfl (qv_ln hb rfl) (qv_cC hRm (by decide) (by decide)) dX0_init_40 (fun M4 => ?_)
  refine qv_dup (pc := 43) g dX0_init_43 rfl ?_
  refine qv_ci (pc := 44) (T2 := (T0 ++ [(0, 3, [some (some (b + 1)), some (some (b + 2)), some (some (b + 3))]), (37, 4, [some none, some none, some none, some none]), (36, 3, [some none, some none, some none]), (20, 7, []), (7, 2, [some (some (b + 5)), none]), (21, 16, [])])) g (c_X7_init (gl G) X d (T0 ++ [(0, 3, [some (some (b + 1)), some (some (b + 2)), some (some (b + 3))]), (37, 4, [some none, some none, some none, some none]), (36, 3, [some none, some none, some none]), (20, 7, [])]) (b + 4) (qv_ln hb rfl) M4) (List.append_assoc _ _ _) (qv_RC hRm (by omega) (by decide)) (qv_cC hRm (by decide) (by decide)) mw_X7_init lk_RX0_27 im_X7_init rfl pd_X7_init (Nat.le_of_ble_eq_true rfl) dX0_init_44 (fun M5 => ?_)
  refine qv_aast (pc := 47) (T1 := (T0 ++ [(0, 3, [some (some (b + 1)), some (some (b + 2)), some (some (b + 3))]), (37, 4, [some (some (b + 4)), some none, some none, some none]), (36, 3, [some none, some none, some none]), (20, 7, []), (7, 2, [some (some (b + 5)), none]), (21, 16, [])])) (j := 0) g (by decide) (qv_at hb (k := 1) rfl) (qv_at hb (k := 4) rfl) rfl (by decide) (by decide) (by decide) rfl (qv_st hb 1 _) dX0_init_47 ?_
  refine qv_iinc (pc := 48) (v := 1) (lv1 := [(1, .int 1), (0, .ref (X.2.2.2 + b))]) g dX0_init_48 rfl rfl (by decide) rfl ?_
  refine qv_goto (pc := 51) (tgt := 30) g dX0_init_51 (by decide) ?_
  refine qv_iload_n (pc := 30) g dX0_init_30 rfl rfl ?_
  refine qv_iconst (v := 4) (pc := 31) g dX0_init_31 (by decide) ?_
  refine qv_geF (pc := 32) (tgt := 54) g dX0_init_32 (by decide) (by decide) ?_
  refine qv_aload_n (pc := 35) g dX0_init_35 rfl rfl ?_
  refine qv_get1 (pc := 36) (r := b + 1) g fw_RX0_11 (by decide) (qv_at hb (k := 0) rfl) rfl dX0_init_36 ?_
  refine qv_iload_n (pc := 39) g dX0_init_39 rfl rfl ?_
  refine qv_new (pc := 40) (n := 2) (id := b + 6) g nw_RX0_9 rfl (qv_ln hb rfl) (qv_cC hRm (by decide) (by decide)) dX0_init_40 (fun M6 => ?_)
  refine qv_dup (pc := 43) g dX0_init_43 rfl ?_
  refine qv_ci (pc := 44) (T2 := (T0 ++ [(0, 3, [some (some (b + 1)), some (some (b + 2)), some (some (b + 3))]), (37, 4, [some (some (b + 4)), some none, some none, some none]), (36, 3, [some none, some none, some none]), (20, 7, []), (7, 2, [some (some (b + 5)), none]), (21, 16, []), (7, 2, [some (some (b + 7)), none]), (21, 16, [])])) g (c_X7_init (gl G) X d (T0 ++ [(0, 3, [some (some (b + 1)), some (some (b + 2)), some (some (b + 3))]), (37, 4, [some (some (b + 4)), some none, some none, some none]), (36, 3, [some none, some none, some none]), (20, 7, []), (7, 2, [some (some (b + 5)), none]), (21, 16, [])]) (b + 6) (qv_ln hb rfl) M6) (List.append_assoc _ _ _) (qv_RC hRm (by omega) (by decide)) (qv_cC hRm (by decide) (by decide)) mw_X7_init lk_RX0_27 im_X7_init rfl pd_X7_init (Nat.le_of_ble_eq_true rfl) dX0_init_44 (fun M7 => ?_)
  refine qv_aast (pc := 47) (T1 := (T0 ++ [(0, 3, [some (some (b + 1)), some (some (b + 2)), some (some (b + 3))]), (37, 4, [some (some (b + 4)), some (some (b + 6)), some none, some none]), (36, 3, [some none, some none, some none]), (20, 7, []), (7, 2, [some (some (b + 5)), none]), (21, 16, []), (7, 2, [some (some (b + 7)), none]), (21, 16, [])])) (j := 1) g (by decide) (qv_at hb (k := 1) rfl) (qv_at hb (k := 6) rfl) rfl (by decide) (by decide) (by decide) rfl (qv_st hb 1 _) dX0_init_47 ?_
  refine qv_iinc (pc := 48) (v := 2) (lv1 := [(1, .int 2), (0, .ref (X.2.2.2 + b))]) g dX0_init_48 rfl rfl (by decide) rfl ?_
  refine qv_goto (pc := 51) (tgt := 30) g dX0_init_51 (by decide) ?_
  refine qv_iload_n (pc := 30) g dX0_init_30 rfl rfl ?_
  refine qv_iconst (v := 4) (pc := 31) g dX0_init_31 (by decide) ?_
  refine qv_geF (pc := 32) (tgt := 54) g dX0_init_32 (by decide) (by decide) ?_
  refine qv_aload_n (pc := 35) g dX0_init_35 rfl rfl ?_
  refine qv_get1 (pc := 36) (r := b + 1) g fw_RX0_11 (by decide) (qv_at hb (k := 0) rfl) rfl dX0_init_36 ?_
  refine qv_iload_n (pc := 39) g dX0_init_39 rfl rfl ?_
  refine qv_new (pc := 40) (n := 2) (id := b + 8) g nw_RX0_9 rfl (qv_ln hb rfl) (qv_cC hRm (by decide) (by decide)) dX0_init_40 (fun M8 => ?_)
  refine qv_dup (pc := 43) g dX0_init_43 rfl ?_
  refine qv_ci (pc := 44) (T2 := (T0 ++ [(0, 3, [some (some (b + 1)), some (some (b + 2)), some (some (b + 3))]), (37, 4, [some (some (b + 4)), some (some (b + 6)), some none, some none]), (36, 3, [some none, some none, some none]), (20, 7, []), (7, 2, [some (some (b + 5)), none]), (21, 16, []), (7, 2, [some (some (b + 7)), none]), (21, 16, []), (7, 2, [some (some (b + 9)), none]), (21, 16, [])])) g (c_X7_init (gl G) X d (T0 ++ [(0, 3, [some (some (b + 1)), some (some (b + 2)), some (some (b + 3))]), (37, 4, [some (some (b + 4)), some (some (b + 6)), some none, some none]), (36, 3, [some none, some none, some none]), (20, 7, []), (7, 2, [some (some (b + 5)), none]), (21, 16, []), (7, 2, [some (some (b + 7)), none]), (21, 16, [])]) (b + 8) (qv_ln hb rfl) M8) (List.append_assoc _ _ _) (qv_RC hRm (by omega) (by decide)) (qv_cC hRm (by decide) (by decide)) mw_X7_init lk_RX0_27 im_X7_init rfl pd_X7_init (Nat.le_of_ble_eq_true rfl) dX0_init_44 (fun M9 => ?_)
  refine qv_aast (pc := 47) (T1 := (T0 ++ [(0, 3, [some (some (b + 1)), some (some (b + 2)), some (some (b + 3))]), (37, 4, [some (some (b + 4)), some (some (b + 6)), some (some (b + 8)), some none]), (36, 3, [some none, some none, some none]), (20, 7, []), (7, 2, [some (some (b + 5)), none]), (21, 16, []), (7, 2, [some (some (b + 7)), none]), (21, 16, []), (7, 2, [some (some (b + 9)), none]), (21, 16, [])])) (j := 2) g (by decide) (qv_at hb (k := 1) rfl) (qv_at hb (k := 8) rfl) rfl (by decide) (by decide) (by decide) rfl (qv_st hb 1 _) dX0_init_47 ?_
  refine qv_iinc (pc := 48) (v := 3) (lv1 := [(1, .int 3), (0, .ref (X.2.2.2 + b))]) g dX0_init_48 rfl rfl (by decide) rfl ?_
  refine qv_goto (pc := 51) (tgt := 30) g dX0_init_51 (by decide) ?_
  refine qv_iload_n (pc := 30) g dX0_init_30 rfl rfl ?_
  refine qv_iconst (v := 4) (pc := 31) g dX0_init_31 (by decide) ?_
  refine qv_geF (pc := 32) (tgt := 54) g dX0_init_32 (by decide) (by decide) ?_
  refine qv_aload_n (pc := 35) g dX0_init_35 rfl rfl ?_
  refine qv_get1 (pc := 36) (r := b + 1) g fw_RX0_11 (by decide) (qv_at hb (k := 0) rfl) rfl dX0_init_36 ?_
  refine qv_iload_n (pc := 39) g dX0_init_39 rfl rfl ?_
  refine qv_new (pc := 40) (n := 2) (id := b + 10) g nw_RX0_9 rfl (qv_ln hb rfl) (qv_cC hRm (by decide) (by decide)) dX0_init_40 (fun M10 => ?_)
  refine qv_dup (pc := 43) g dX0_init_43 rfl ?_
  refine qv_ci (pc := 44) (T2 := (T0 ++ [(0, 3, [some (some (b + 1)), some (some (b + 2)), some (some (b + 3))]), (37, 4, [some (some (b + 4)), some (some (b + 6)), some (some (b + 8)), some none]), (36, 3, [some none, some none, some none]), (20, 7, []), (7, 2, [some (some (b + 5)), none]), (21, 16, []), (7, 2, [some (some (b + 7)), none]), (21, 16, []), (7, 2, [some (some (b + 9)), none]), (21, 16, []), (7, 2, [some (some (b + 11)), none]), (21, 16, [])])) g (c_X7_init (gl G) X d (T0 ++ [(0, 3, [some (some (b + 1)), some (some (b + 2)), some (some (b + 3))]), (37, 4, [some (some (b + 4)), some (some (b + 6)), some (some (b + 8)), some none]), (36, 3, [some none, some none, some none]), (20, 7, []), (7, 2, [some (some (b + 5)), none]), (21, 16, []), (7, 2, [some (some (b + 7)), none]), (21, 16, []), (7, 2, [some (some (b + 9)), none]), (21, 16, [])]) (b + 10) (qv_ln hb rfl) M10) (List.append_assoc _ _ _) (qv_RC hRm (by omega) (by decide)) (qv_cC hRm (by decide) (by decide)) mw_X7_init lk_RX0_27 im_X7_init rfl pd_X7_init (Nat.le_of_ble_eq_true rfl) dX0_init_44 (fun M11 => ?_)
  refine qv_aast (pc := 47) (T1 := (T0 ++ [(0, 3, [some (some (b + 1)), some (some (b + 2)), some (some (b + 3))]), (37, 4, [some (some (b + 4)), some (some (b + 6)), some (some (b + 8)), some (some (b + 10))]), (36, 3, [some none, some none, some none]), (20, 7, []), (7, 2, [some (some (b + 5)), none]), (21, 16, []), (7, 2, [some (some (b + 7)), none]), (21, 16, []), (7, 2, [some (some (b + 9)), none]), (21, 16, []), (7, 2, [some (some (b + 11)), none]), (21, 16, [])])) (j := 3) g (by decide) (qv_at hb (k := 1) rfl) (qv_at hb (k := 10) rfl) rfl (by decide) (by decide) (by decide) rfl (qv_st hb 1 _) dX0_init_47 ?_
  refine qv_iinc (pc := 48) (v := 4) (lv1 := [(1, .int 4), (0, .ref (X.2.2.2 + b))]) g dX0_init_48 rfl rfl (by decide) rfl ?_
  refine qv_goto (pc := 51) (tgt := 30) g dX0_init_51 (by decide) ?_
  refine qv_iload_n (pc := 30) g dX0_init_30 rfl rfl ?_
  refine qv_iconst (v := 4) (pc := 31) g dX0_init_31 (by decide) ?_
  refine qv_geT (pc := 32) (tgt := 54) g dX0_init_32 (by decide) (by decide) ?_
  refine qv_iconst (v := 0) (pc := 54) g dX0_init_54 (by decide) ?_
  refine qv_istore_n (pc := 55) (lv1 := [(1, .int 0), (0, .ref (X.2.2.2 + b))]) g dX0_init_55 rfl (by decide) rfl ?_
  refine qv_iload_n (pc := 56) g dX0_init_56 rfl rfl ?_
  refine qv_iconst (v := 3) (pc := 57) g dX0_init_57 (by decide) ?_
  refine qv_geF (pc := 58) (tgt := 80) g dX0_init_58 (by decide) (by decide) ?_
  refine qv_aload_n (pc := 61) g dX0_init_61 rfl rfl ?_
  refine qv_get1 (pc := 62) (r := b + 2) g fw_RX0_19 (by decide) (qv_at hb (k := 0) rfl) rfl dX0_init_62 ?_
  refine qv_iload_n (pc := 65) g dX0_init_65 rfl rfl ?_
  refine qv_new (pc := 66) (n := 2) (id := b + 12) g nw_RX0_17 rfl (qv_ln hb rfl) (qv_cC hRm (by decide) (by decide)) dX0_init_66 (fun M12 => ?_)
  refine qv_dup (pc := 69) g dX0_init_69 rfl ?_
  refine qv_cin (pc := 70) (T2 := (T0 ++ [(0, 3, [some (some (b + 1)), some (some (b + 2)), some (some (b + 3))]), (37, 4, [some (some (b + 4)), some (some (b + 6)), some (some (b + 8)), some (some (b + 10))]), (36, 3, [some none, some none, some none]), (20, 7, []), (7, 2, [some (some (b + 5)), none]), (21, 16, []), (7, 2, [some (some (b + 7)), none]), (21, 16, []), (7, 2, [some (some (b + 9)), none]), (21, 16, []), (7, 2, [some (some (b + 11)), none]), (21, 16, []), (6, 2, [some (some (b + 13)), none]), (20, 60, [])])) g (c_X6_init (gl G) X (d + 2) (T0 ++ [(0, 3, [some (some (b + 1)), some (some (b + 2)), some (some (b + 3))]), (37, 4, [some (some (b + 4)), some (some (b + 6)), some (some (b + 8)), some (some (b + 10))]), (36, 3, [some none, some none, some none]), (20, 7, []), (7, 2, [some (some (b + 5)), none]), (21, 16, []), (7, 2, [some (some (b + 7)), none]), (21, 16, []), (7, 2, [some (some (b + 9)), none]), (21, 16, []), (7, 2, [some (some (b + 11)), none]), (21, 16, [])]) (b + 12) (qv_ln hb rfl) M12) (List.append_assoc _ _ _) (qv_RC hRm (by omega) (by decide)) (qv_cC hRm (by decide) (by decide)) mw_X6_init ln_RX0_28 im_X6_init rfl pd_X6_init (Nat.le_of_ble_eq_true rfl) dX0_init_70 (fun M13 => ?_)
  refine qv_aast (pc := 73) (T1 := (T0 ++ [(0, 3, [some (some (b + 1)), some (some (b + 2)), some (some (b + 3))]), (37, 4, [some (some (b + 4)), some (some (b + 6)), some (some (b + 8)), some (some (b + 10))]), (36, 3, [some (some (b + 12)), some none, some none]), (20, 7, []), (7, 2, [some (some (b + 5)), none]), (21, 16, []), (7, 2, [some (some (b + 7)), none]), (21, 16, []), (7, 2, [some (some (b + 9)), none]), (21, 16, []), (7, 2, [some (some (b + 11)), none]), (21, 16, []), (6, 2, [some (some (b + 13)), none]), (20, 60, [])])) (j := 0) g (by decide) (qv_at hb (k := 2) rfl) (qv_at hb (k := 12) rfl) rfl (by decide) (by decide) (by decide) rfl (qv_st hb 2 _) dX0_init_73 ?_
  refine qv_iinc (pc := 74) (v := 1) (lv1 := [(1, .int 1), (0, .ref (X.2.2.2 + b))]) g dX0_init_74 rfl rfl (by decide) rfl ?_
  refine qv_goto (pc := 77) (tgt := 56) g dX0_init_77 (by decide) ?_
  refine qv_iload_n (pc := 56) g dX0_init_56 rfl rfl ?_
  refine qv_iconst (v := 3) (pc := 57) g dX0_init_57 (by decide) ?_
  refine qv_geF (pc := 58) (tgt := 80) g dX0_init_58 (by decide) (by decide) ?_
  refine qv_aload_n (pc := 61) g dX0_init_61 rfl rfl ?_
  refine qv_get1 (pc := 62) (r := b + 2) g fw_RX0_19 (by decide) (qv_at hb (k := 0) rfl) rfl dX0_init_62 ?_
  refine qv_iload_n (pc := 65) g dX0_init_65 rfl rfl ?_
  refine qv_new (pc := 66) (n := 2) (id := b + 14) g nw_RX0_17 rfl (qv_ln hb rfl) (qv_cC hRm (by decide) (by decide)) dX0_init_66 (fun M14 => ?_)
  refine qv_dup (pc := 69) g dX0_init_69 rfl ?_
  refine qv_cin (pc := 70) (T2 := (T0 ++ [(0, 3, [some (some (b + 1)), some (some (b + 2)), some (some (b + 3))]), (37, 4, [some (some (b + 4)), some (some (b + 6)), some (some (b + 8)), some (some (b + 10))]), (36, 3, [some (some (b + 12)), some none, some none]), (20, 7, []), (7, 2, [some (some (b + 5)), none]), (21, 16, []), (7, 2, [some (some (b + 7)), none]), (21, 16, []), (7, 2, [some (some (b + 9)), none]), (21, 16, []), (7, 2, [some (some (b + 11)), none]), (21, 16, []), (6, 2, [some (some (b + 13)), none]), (20, 60, []), (6, 2, [some (some (b + 15)), none]), (20, 60, [])])) g (c_X6_init (gl G) X (d + 2) (T0 ++ [(0, 3, [some (some (b + 1)), some (some (b + 2)), some (some (b + 3))]), (37, 4, [some (some (b + 4)), some (some (b + 6)), some (some (b + 8)), some (some (b + 10))]), (36, 3, [some (some (b + 12)), some none, some none]), (20, 7, []), (7, 2, [some (some (b + 5)), none]), (21, 16, []), (7, 2, [some (some (b + 7)), none]), (21, 16, []), (7, 2, [some (some (b + 9)), none]), (21, 16, []), (7, 2, [some (some (b + 11)), none]), (21, 16, []), (6, 2, [some (some (b + 13)), none]), (20, 60, [])]) (b + 14) (qv_ln hb rfl) M14) (List.append_assoc _ _ _) (qv_RC hRm (by omega) (by decide)) (qv_cC hRm (by decide) (by decide)) mw_X6_init ln_RX0_28 im_X6_init rfl pd_X6_init (Nat.le_of_ble_eq_true rfl) dX0_init_70 (fun M15 => ?_)
  refine qv_aast (pc := 73) (T1 := (T0 ++ [(0, 3, [some (some (b + 1)), some (some (b + 2)), some (some (b + 3))]), (37, 4, [some (some (b + 4)), some (some (b + 6)), some (some (b + 8)), some (some (b + 10))]), (36, 3, [some (some (b + 12)), some (some (b + 14)), some none]), (20, 7, []), (7, 2, [some (some (b + 5)), none]), (21, 16, []), (7, 2, [some (some (b + 7)), none]), (21, 16, []), (7, 2, [some (some (b + 9)), none]), (21, 16, []), (7, 2, [some (some (b + 11)), none]), (21, 16, []), (6, 2, [some (some (b + 13)), none]), (20, 60, []), (6, 2, [some (some (b + 15)), none]), (20, 60, [])])) (j := 1) g (by decide) (qv_at hb (k := 2) rfl) (qv_at hb (k := 14) rfl) rfl (by decide) (by decide) (by decide) rfl (qv_st hb 2 _) dX0_init_73 ?_
  refine qv_iinc (pc := 74) (v := 2) (lv1 := [(1, .int 2), (0, .ref (X.2.2.2 + b))]) g dX0_init_74 rfl rfl (by decide) rfl ?_
  refine qv_goto (pc := 77) (tgt := 56) g dX0_init_77 (by decide) ?_
  refine qv_iload_n (pc := 56) g dX0_init_56 rfl rfl ?_
  refine qv_iconst (v := 3) (pc := 57) g dX0_init_57 (by decide) ?_
  refine qv_geF (pc := 58) (tgt := 80) g dX0_init_58 (by decide) (by decide) ?_
  refine qv_aload_n (pc := 61) g dX0_init_61 rfl rfl ?_
  refine qv_get1 (pc := 62) (r := b + 2) g fw_RX0_19 (by decide) (qv_at hb (k := 0) rfl) rfl dX0_init_62 ?_
  refine qv_iload_n (pc := 65) g dX0_init_65 rfl rfl ?_
  refine qv_new (pc := 66) (n := 2) (id := b + 16) g nw_RX0_17 rfl (qv_ln hb rfl) (qv_cC hRm (by decide) (by decide)) dX0_init_66 (fun M16 => ?_)
  refine qv_dup (pc := 69) g dX0_init_69 rfl ?_
  refine qv_cin (pc := 70) (T2 := (T0 ++ [(0, 3, [some (some (b + 1)), some (some (b + 2)), some (some (b + 3))]), (37, 4, [some (some (b + 4)), some (some (b + 6)), some (some (b + 8)), some (some (b + 10))]), (36, 3, [some (some (b + 12)), some (some (b + 14)), some none]), (20, 7, []), (7, 2, [some (some (b + 5)), none]), (21, 16, []), (7, 2, [some (some (b + 7)), none]), (21, 16, []), (7, 2, [some (some (b + 9)), none]), (21, 16, []), (7, 2, [some (some (b + 11)), none]), (21, 16, []), (6, 2, [some (some (b + 13)), none]), (20, 60, []), (6, 2, [some (some (b + 15)), none]), (20, 60, []), (6, 2, [some (some (b + 17)), none]), (20, 60, [])])) g (c_X6_init (gl G) X (d + 2) (T0 ++ [(0, 3, [some (some (b + 1)), some (some (b + 2)), some (some (b + 3))]), (37, 4, [some (some (b + 4)), some (some (b + 6)), some (some (b + 8)), some (some (b + 10))]), (36, 3, [some (some (b + 12)), some (some (b + 14)), some none]), (20, 7, []), (7, 2, [some (some (b + 5)), none]), (21, 16, []), (7, 2, [some (some (b + 7)), none]), (21, 16, []), (7, 2, [some (some (b + 9)), none]), (21, 16, []), (7, 2, [some (some (b + 11)), none]), (21, 16, []), (6, 2, [some (some (b + 13)), none]), (20, 60, []), (6, 2, [some (some (b + 15)), none]), (20, 60, [])]) (b + 16) (qv_ln hb rfl) M16) (List.append_assoc _ _ _) (qv_RC hRm (by omega) (by decide)) (qv_cC hRm (by decide) (by decide)) mw_X6_init ln_RX0_28 im_X6_init rfl pd_X6_init (Nat.le_of_ble_eq_true rfl) dX0_init_70 (fun M17 => ?_)
  refine qv_aast (pc := 73) (T1 := (T0 ++ [(0, 3, [some (some (b + 1)), some (some (b + 2)), some (some (b + 3))]), (37, 4, [some (some (b + 4)), some (some (b + 6)), some (some (b + 8)), some (some (b + 10))]), (36, 3, [some (some (b + 12)), some (some (b + 14)), some (some (b + 16))]), (20, 7, []), (7, 2, [some (some (b + 5)), none]), (21, 16, []), (7, 2, [some (some (b + 7)), none]), (21, 16, []), (7, 2, [some (some (b + 9)), none]), (21, 16, []), (7, 2, [some (some (b + 11)), none]), (21, 16, []), (6, 2, [some (some (b + 13)), none]), (20, 60, []), (6, 2, [some (some (b + 15)), none]), (20, 60, []), (6, 2, [some (some (b + 17)), none]), (20, 60, [])])) (j := 2) g (by decide) (qv_at hb (k := 2) rfl) (qv_at hb (k := 16) rfl) rfl (by decide) (by decide) (by decide) rfl (qv_st hb 2 _) dX0_init_73 ?_
  refine qv_iinc (pc := 74) (v := 3) (lv1 := [(1, .int 3), (0, .ref (X.2.2.2 + b))]) g dX0_init_74 rfl rfl (by decide) rfl ?_
  refine qv_goto (pc := 77) (tgt := 56) g dX0_init_77 (by decide) ?_
  refine qv_iload_n (pc := 56) g dX0_init_56 rfl rfl ?_
  refine qv_iconst (v := 3) (pc := 57) g dX0_init_57 (by decide) ?_
  refine qv_geT (pc := 58) (tgt := 80) g dX0_init_58 (by decide) (by decide) ?_
  refine qv_iconst (v := 0) (pc := 80) g dX0_init_80 (by decide) ?_
  refine qv_istore_n (pc := 81) (lv1 := [(1, .int 0), (0, .ref (X.2.2.2 + b))]) g dX0_init_81 rfl (by decide) rfl ?_
  refine qv_iload_n (pc := 82) g dX0_init_82 rfl rfl ?_
  refine qv_bipush (v := 7) (pc := 83) g dX0_init_83 (by decide) ?_
  refine qv_geF (pc := 85) (tgt := 101) g dX0_init_85 (by decide) (by decide) ?_
  refine qv_aload_n (pc := 88) g dX0_init_88 rfl rfl ?_
  refine qv_get1 (pc := 89) (r := b + 3) g fw_RX0_23 (by decide) (qv_at hb (k := 0) rfl) rfl dX0_init_89 ?_
  refine qv_iload_n (pc := 92) g dX0_init_92 rfl rfl ?_
  refine qv_iconst (v := 1) (pc := 93) g dX0_init_93 (by decide) ?_
  refine qv_iast (pc := 94) (m := 0) g ⟨_, qv_at hb (k := 3) rfl⟩ dX0_init_94 (fun M18 => ?_)
  refine qv_iinc (pc := 95) (v := 1) (lv1 := [(1, .int 1), (0, .ref (X.2.2.2 + b))]) g dX0_init_95 rfl rfl (by decide) rfl ?_
  refine qv_goto (pc := 98) (tgt := 82) g dX0_init_98 (by decide) ?_
  refine qv_iload_n (pc := 82) g dX0_init_82 rfl rfl ?_
  refine qv_bipush (v := 7) (pc := 83) g dX0_init_83 (by decide) ?_
  refine qv_geF (pc := 85) (tgt := 101) g dX0_init_85 (by decide) (by decide) ?_
  refine qv_aload_n (pc := 88) g dX0_init_88 rfl rfl ?_
  refine qv_get1 (pc := 89) (r := b + 3) g fw_RX0_23 (by decide) (qv_at hb (k := 0) rfl) rfl dX0_init_89 ?_
  refine qv_iload_n (pc := 92) g dX0_init_92 rfl rfl ?_
  refine qv_iconst (v := 1) (pc := 93) g dX0_init_93 (by decide) ?_
  refine qv_iast (pc := 94) (m := 0) g ⟨_, qv_at hb (k := 3) rfl⟩ dX0_init_94 (fun M19 => ?_)
  refine qv_iinc (pc := 95) (v := 2) (lv1 := [(1, .int 2), (0, .ref (X.2.2.2 + b))]) g dX0_init_95 rfl rfl (by decide) rfl ?_
  refine qv_goto (pc := 98) (tgt := 82) g dX0_init_98 (by decide) ?_
  refine qv_iload_n (pc := 82) g dX0_init_82 rfl rfl ?_
  refine qv_bipush (v := 7) (pc := 83) g dX0_init_83 (by decide) ?_
  refine qv_geF (pc := 85) (tgt := 101) g dX0_init_85 (by decide) (by decide) ?_
  refine qv_aload_n (pc := 88) g dX0_init_88 rfl rfl ?_
  refine qv_get1 (pc := 89) (r := b + 3) g fw_RX0_23 (by decide) (qv_at hb (k := 0) rfl) rfl dX0_init_89 ?_
  refine qv_iload_n (pc := 92) g dX0_init_92 rfl rfl ?_
  refine qv_iconst (v := 1) (pc := 93) g dX0_init_93 (by decide) ?_
  refine qv_iast (pc := 94) (m := 0) g ⟨_, qv_at hb (k := 3) rfl⟩ dX0_init_94 (fun M20 => ?_)
  refine qv_iinc (pc := 95) (v := 3) (lv1 := [(1, .int 3), (0, .ref (X.2.2.2 + b))]) g dX0_init_95 rfl rfl (by decide) rfl ?_
  refine qv_goto (pc := 98) (tgt := 82) g dX0_init_98 (by decide) ?_
  refine qv_iload_n (pc := 82) g dX0_init_82 rfl rfl ?_
  refine qv_bipush (v := 7) (pc := 83) g dX0_init_83 (by decide) ?_
  refine qv_geF (pc := 85) (tgt := 101) g dX0_init_85 (by decide) (by decide) ?_
  refine qv_aload_n (pc := 88) g dX0_init_88 rfl rfl ?_
  refine qv_get1 (pc := 89) (r := b + 3) g fw_RX0_23 (by decide) (qv_at hb (k := 0) rfl) rfl dX0_init_89 ?_
  refine qv_iload_n (pc := 92) g dX0_init_92 rfl rfl ?_
  refine qv_iconst (v := 1) (pc := 93) g dX0_init_93 (by decide) ?_
  refine qv_iast (pc := 94) (m := 0) g ⟨_, qv_at hb (k := 3) rfl⟩ dX0_init_94 (fun M21 => ?_)
  refine qv_iinc (pc := 95) (v := 4) (lv1 := [(1, .int 4), (0, .ref (X.2.2.2 + b))]) g dX0_init_95 rfl rfl (by decide) rfl ?_
  refine qv_goto (pc := 98) (tgt := 82) g dX0_init_98 (by decide) ?_
  refine qv_iload_n (pc := 82) g dX0_init_82 rfl rfl ?_
  refine qv_bipush (v := 7) (pc := 83) g dX0_init_83 (by decide) ?_
  refine qv_geF (pc := 85) (tgt := 101) g dX0_init_85 (by decide) (by decide) ?_
  refine qv_aload_n (pc := 88) g dX0_init_88 rfl rfl ?_
  refine qv_get1 (pc := 89) (r := b + 3) g fw_RX0_23 (by decide) (qv_at hb (k := 0) rfl) rfl dX0_init_89 ?_
  refine qv_iload_n (pc := 92) g dX0_init_92 rfl rfl ?_
  refine qv_iconst (v := 1) (pc := 93) g dX0_init_93 (by decide) ?_
  refine qv_iast (pc := 94) (m := 0) g ⟨_, qv_at hb (k := 3) rfl⟩ dX0_init_94 (fun M22 => ?_)
  refine qv_iinc (pc := 95) (v := 5) (lv1 := [(1, .int 5), (0, .ref (X.2.2.2 + b))]) g dX0_init_95 rfl rfl (by decide) rfl ?_
  refine qv_goto (pc := 98) (tgt := 82) g dX0_init_98 (by decide) ?_
  refine qv_iload_n (pc := 82) g dX0_init_82 rfl rfl ?_
  refine qv_bipush (v := 7) (pc := 83) g dX0_init_83 (by decide) ?_
  refine qv_geF (pc := 85) (tgt := 101) g dX0_init_85 (by decide) (by decide) ?_
  refine qv_aload_n (pc := 88) g dX0_init_88 rfl rfl ?_
  refine qv_get1 (pc := 89) (r := b + 3) g fw_RX0_23 (by decide) (qv_at hb (k := 0) rfl) rfl dX0_init_89 ?_
  refine qv_iload_n (pc := 92) g dX0_init_92 rfl rfl ?_
  refine qv_iconst (v := 1) (pc := 93) g dX0_init_93 (by decide) ?_
  refine qv_iast (pc := 94) (m := 0) g ⟨_, qv_at hb (k := 3) rfl⟩ dX0_init_94 (fun M23 => ?_)
  refine qv_iinc (pc := 95) (v := 6) (lv1 := [(1, .int 6), (0, .ref (X.2.2.2 + b))]) g dX0_init_95 rfl rfl (by decide) rfl ?_
  refine qv_goto (pc := 98) (tgt := 82) g dX0_init_98 (by decide) ?_
  refine qv_iload_n (pc := 82) g dX0_init_82 rfl rfl ?_
  refine qv_bipush (v := 7) (pc := 83) g dX0_init_83 (by decide) ?_
  refine qv_geF (pc := 85) (tgt := 101) g dX0_init_85 (by decide) (by decide) ?_
  refine qv_aload_n (pc := 88) g dX0_init_88 rfl rfl ?_
  refine qv_get1 (pc := 89) (r := b + 3) g fw_RX0_23 (by decide) (qv_at hb (k := 0) rfl) rfl dX0_init_89 ?_
  refine qv_iload_n (pc := 92) g dX0_init_92 rfl rfl ?_
  refine qv_iconst (v := 1) (pc := 93) g dX0_init_93 (by decide) ?_
  refine qv_iast (pc := 94) (m := 0) g ⟨_, qv_at hb (k := 3) rfl⟩ dX0_init_94 (fun M24 => ?_)
  refine qv_iinc (pc := 95) (v := 7) (lv1 := [(1, .int 7), (0, .ref (X.2.2.2 + b))]) g dX0_init_95 rfl rfl (by decide) rfl ?_
  refine qv_goto (pc := 98) (tgt := 82) g dX0_init_98 (by decide) ?_
  refine qv_iload_n (pc := 82) g dX0_init_82 rfl rfl ?_
  refine qv_bipush (v := 7) (pc := 83) g dX0_init_83 (by decide) ?_
  refine qv_geT (pc := 85) (tgt := 101) g dX0_init_85 (by decide) (by decide) ?_
  exact qv_vret (pc := 101) g hr rfl dX0_init_101

def K_X3 (b : Nat) : List qv_Ent := [(3, 4, [some (some (b + 1)), some (some (b + 2)), none, none]), (36, 8, [some (some (b + 3)), some (some (b + 5)), some (some (b + 7)), some (some (b + 9)), some (some (b + 11)), some (some (b + 13)), some (some (b + 15)), some (some (b + 17))]), (20, 8, []), (6, 2, [some (some (b + 4)), none]), (20, 60, []), (6, 2, [some (some (b + 6)), none]), (20, 60, []), (6, 2, [some (some (b + 8)), none]), (20, 60, []), (6, 2, [some (some (b + 10)), none]), (20, 60, []), (6, 2, [some (some (b + 12)), none]), (20, 60, []), (6, 2, [some (some (b + 14)), none]), (20, 60, []), (6, 2, [some (some (b + 16)), none]), (20, 60, []), (6, 2, [some (some (b + 18)), none]), (20, 60, [])]
noncomputable def g_X3 (T0 : List qv_Ent) (b : Nat) (M : qv_Mem) : Option qv_Mem :=
 qv_al (b + 1) M (fun M1 =>
 qv_al (b + 2) M1 (fun M2 =>
 qv_pS (b) 2 0 M2 (fun M3 =>
 qv_pS (b) 3 0 M3 (fun M4 =>
 qv_al (b + 3) M4 (fun M5 =>
 qv_bo (g_X6 (T0 ++ [(3, 4, [some (some (b + 1)), some (some (b + 2)), none, none]), (36, 8, [some none, some none, some none, some none, some none, some none, some none, some none]), (20, 8, [])]) (b + 3) M5) (fun M6 =>
 qv_al (b + 5) M6 (fun M7 =>
 qv_bo (g_X6 (T0 ++ [(3, 4, [some (some (b + 1)), some (some (b + 2)), none, none]), (36, 8, [some (some (b + 3)), some none, some none, some none, some none, some none, some none, some none]), (20, 8, []), (6, 2, [some (some (b + 4)), none]), (20, 60, [])]) (b + 5) M7) (fun M8 =>
 qv_al (b + 7) M8 (fun M9 =>
 qv_bo (g_X6 (T0 ++ [(3, 4, [some (some (b + 1)), some (some (b + 2)), none, none]), (36, 8, [some (some (b + 3)), some (some (b + 5)), some none, some none, some none, some none, some none, some none]), (20, 8, []), (6, 2, [some (some (b + 4)), none]), (20, 60, []), (6, 2, [some (some (b + 6)), none]), (20, 60, [])]) (b + 7) M9) (fun M10 =>
 qv_al (b + 9) M10 (fun M11 =>
 qv_bo (g_X6 (T0 ++ [(3, 4, [some (some (b + 1)), some (some (b + 2)), none, none]), (36, 8, [some (some (b + 3)), some (some (b + 5)), some (some (b + 7)), some none, some none, some none, some none, some none]), (20, 8, []), (6, 2, [some (some (b + 4)), none]), (20, 60, []), (6, 2, [some (some (b + 6)), none]), (20, 60, []), (6, 2, [some (some (b + 8)), none]), (20, 60, [])]) (b + 9) M11) (fun M12 =>
 qv_al (b + 11) M12 (fun M13 =>
 qv_bo (g_X6 (T0 ++ [(3, 4, [some (some (b + 1)), some (some (b + 2)), none, none]), (36, 8, [some (some (b + 3)), some (some (b + 5)), some (some (b + 7)), some (some (b + 9)), some none, some none, some none, some none]), (20, 8, []), (6, 2, [some (some (b + 4)), none]), (20, 60, []), (6, 2, [some (some (b + 6)), none]), (20, 60, []), (6, 2, [some (some (b + 8)), none]), (20, 60, []), (6, 2, [some (some (b + 10)), none]), (20, 60, [])]) (b + 11) M13) (fun M14 =>
 qv_al (b + 13) M14 (fun M15 =>
 qv_bo (g_X6 (T0 ++ [(3, 4, [some (some (b + 1)), some (some (b + 2)), none, none]), (36, 8, [some (some (b + 3)), some (some (b + 5)), some (some (b + 7)), some (some (b + 9)), some (some (b + 11)), some none, some none, some none]), (20, 8, []), (6, 2, [some (some (b + 4)), none]), (20, 60, []), (6, 2, [some (some (b + 6)), none]), (20, 60, []), (6, 2, [some (some (b + 8)), none]), (20, 60, []), (6, 2, [some (some (b + 10)), none]), (20, 60, []), (6, 2, [some (some (b + 12)), none]), (20, 60, [])]) (b + 13) M15) (fun M16 =>
 qv_al (b + 15) M16 (fun M17 =>
 qv_bo (g_X6 (T0 ++ [(3, 4, [some (some (b + 1)), some (some (b + 2)), none, none]), (36, 8, [some (some (b + 3)), some (some (b + 5)), some (some (b + 7)), some (some (b + 9)), some (some (b + 11)), some (some (b + 13)), some none, some none]), (20, 8, []), (6, 2, [some (some (b + 4)), none]), (20, 60, []), (6, 2, [some (some (b + 6)), none]), (20, 60, []), (6, 2, [some (some (b + 8)), none]), (20, 60, []), (6, 2, [some (some (b + 10)), none]), (20, 60, []), (6, 2, [some (some (b + 12)), none]), (20, 60, []), (6, 2, [some (some (b + 14)), none]), (20, 60, [])]) (b + 15) M17) (fun M18 =>
 qv_al (b + 17) M18 (fun M19 =>
 qv_bo (g_X6 (T0 ++ [(3, 4, [some (some (b + 1)), some (some (b + 2)), none, none]), (36, 8, [some (some (b + 3)), some (some (b + 5)), some (some (b + 7)), some (some (b + 9)), some (some (b + 11)), some (some (b + 13)), some (some (b + 15)), some none]), (20, 8, []), (6, 2, [some (some (b + 4)), none]), (20, 60, []), (6, 2, [some (some (b + 6)), none]), (20, 60, []), (6, 2, [some (some (b + 8)), none]), (20, 60, []), (6, 2, [some (some (b + 10)), none]), (20, 60, []), (6, 2, [some (some (b + 12)), none]), (20, 60, []), (6, 2, [some (some (b + 14)), none]), (20, 60, []), (6, 2, [some (some (b + 16)), none]), (20, 60, [])]) (b + 17) M19) (fun M20 =>
 some M20))))))))))))))))))))
set_option maxHeartbeats 4000000 in
set_option maxRecDepth 100000 in
theorem c_X3_init (l : Launch) (X : qv_X) (d : Nat) (T0 : List qv_Ent) (b : Nat) (hb : T0.length = b) (M : qv_Mem) : qv_OkC l X yX3_init cX3_init 2 (d + 1) 18 512 (T0 ++ [(3, 4, [some none, some none, none, none])]) (T0 ++ K_X3 b) M [.ref (X.2.2.2 + b)] (g_X3 T0 b M) := by
  refine qv_mkC (lv := [(0, .ref (X.2.2.2 + b))]) (by decide) (Nat.le_of_ble_eq_true rfl) rfl rfl (fun G hG hRm g hr hin => ?_)
  have g : qv_ok G X cX3_init RX3 2 := g
  unfold g_X3
  refine qv_aload_n (pc := 0) g dX3_init_0 rfl rfl ?_
  refine qv_obj (pc := 1) g lk_RX3_3 im_obj cd_obj (Nat.le_of_ble_eq_true rfl) dX3_init_1 ?_
  refine qv_aload_n (pc := 4) g dX3_init_4 rfl rfl ?_
  refine qv_bipush (v := 8) (pc := 5) g dX3_init_5 (by decide) ?_
  refine qv_newQ (pc := 7) (n := 8) (id := b + 1) (c := 36) g (by decide) ck_RX3_9 (by decide) (by decide) (by decide) (qv_ln hb rfl) (qv_cC hRm (by decide) (by decide)) dX3_init_7 (fun M1 => ?_)
  refine qv_T (T1 := (T0 ++ [(3, 4, [some none, some none, none, none]), (36, 8, [some none, some none, some none, some none, some none, some none, some none, some none])])) (List.append_assoc _ _ _) ?_
  refine qv_putF (pc := 10) (T1 := (T0 ++ [(3, 4, [some (some (b + 1)), some none, none, none]), (36, 8, [some none, some none, some none, some none, some none, some none, some none, some none])])) g pw_RX3_11 rfl hin (by decide) (qv_at hb (k := 0) rfl) (Nat.le_of_ble_eq_true rfl) rfl (qv_st hb 0 _) rfl rfl dX3_init_10 ?_
  refine qv_aload_n (pc := 13) g dX3_init_13 rfl rfl ?_
  refine qv_bipush (v := 8) (pc := 14) g dX3_init_14 (by decide) ?_
  refine qv_newI (pc := 16) (n := 8) (id := b + 2) g ac_int (by decide) (by decide) (by decide) (qv_ln hb rfl) (qv_cC hRm (by decide) (by decide)) dX3_init_16 (fun M2 => ?_)
  refine qv_T (T1 := (T0 ++ [(3, 4, [some (some (b + 1)), some none, none, none]), (36, 8, [some none, some none, some none, some none, some none, some none, some none, some none]), (20, 8, [])])) (List.append_assoc _ _ _) ?_
  refine qv_putF (pc := 18) (T1 := (T0 ++ [(3, 4, [some (some (b + 1)), some (some (b + 2)), none, none]), (36, 8, [some none, some none, some none, some none, some none, some none, some none, some none]), (20, 8, [])])) g pw_RX3_17 rfl hin (by decide) (qv_at hb (k := 0) rfl) (Nat.le_of_ble_eq_true rfl) rfl (qv_st hb 0 _) rfl rfl dX3_init_18 ?_
  refine qv_aload_n (pc := 21) g dX3_init_21 rfl rfl ?_
  refine qv_iconst (v := 0) (pc := 22) g dX3_init_22 (by decide) ?_
  refine qv_put1 (pc := 23) g pw_RX3_21 rfl rfl (by decide) (qv_at hb (k := 0) rfl) (Nat.le_of_ble_eq_true rfl) rfl dX3_init_23 (fun M3 => ?_)
  refine qv_aload_n (pc := 26) g dX3_init_26 rfl rfl ?_
  refine qv_iconst (v := 0) (pc := 27) g dX3_init_27 (by decide) ?_
  refine qv_put1 (pc := 28) g pw_RX3_25 rfl rfl (by decide) (qv_at hb (k := 0) rfl) (Nat.le_of_ble_eq_true rfl) rfl dX3_init_28 (fun M4 => ?_)
  refine qv_iconst (v := 0) (pc := 31) g dX3_init_31 (by decide) ?_
  refine qv_istore_n (pc := 32) (lv1 := [(1, .int 0), (0, .ref (X.2.2.2 + b))]) g dX3_init_32 rfl (by decide) rfl ?_
  refine qv_iload_n (pc := 33) g dX3_init_33 rfl rfl ?_
  refine qv_bipush (v := 8) (pc := 34) g dX3_init_34 (by decide) ?_
  refine qv_geF (pc := 36) (tgt := 58) g dX3_init_36 (by decide) (by decide) ?_
  refine qv_aload_n (pc := 39) g dX3_init_39 rfl rfl ?_
  refine qv_get1 (pc := 40) (r := b + 1) g fw_RX3_11 (by decide) (qv_at hb (k := 0) rfl) rfl dX3_init_40 ?_
  refine qv_iload_n (pc := 43) g dX3_init_43 rfl rfl ?_
  refine qv_new (pc := 44) (n := 2) (id := b + 3) g nw_RX3_9 rfl (qv_ln hb rfl) (qv_cC hRm (by decide) (by decide)) dX3_init_44 (fun M5 => ?_)
  refine qv_dup (pc := 47) g dX3_init_47 rfl ?_
  refine qv_cin (pc := 48) (T2 := (T0 ++ [(3, 4, [some (some (b + 1)), some (some (b + 2)), none, none]), (36, 8, [some none, some none, some none, some none, some none, some none, some none, some none]), (20, 8, []), (6, 2, [some (some (b + 4)), none]), (20, 60, [])])) g (c_X6_init (gl G) X d (T0 ++ [(3, 4, [some (some (b + 1)), some (some (b + 2)), none, none]), (36, 8, [some none, some none, some none, some none, some none, some none, some none, some none]), (20, 8, [])]) (b + 3) (qv_ln hb rfl) M5) (List.append_assoc _ _ _) (qv_RC hRm (by omega) (by decide)) (qv_cC hRm (by decide) (by decide)) mw_X6_init ln_RX3_28 im_X6_init rfl pd_X6_init (Nat.le_of_ble_eq_true rfl) dX3_init_48 (fun M6 => ?_)
  refine qv_aast (pc := 51) (T1 := (T0 ++ [(3, 4, [some (some (b + 1)), some (some (b + 2)), none, none]), (36, 8, [some (some (b + 3)), some none, some none, some none, some none, some none, some none, some none]), (20, 8, []), (6, 2, [some (some (b + 4)), none]), (20, 60, [])])) (j := 0) g (by decide) (qv_at hb (k := 1) rfl) (qv_at hb (k := 3) rfl) rfl (by decide) (by decide) (by decide) rfl (qv_st hb 1 _) dX3_init_51 ?_
  refine qv_iinc (pc := 52) (v := 1) (lv1 := [(1, .int 1), (0, .ref (X.2.2.2 + b))]) g dX3_init_52 rfl rfl (by decide) rfl ?_
  refine qv_goto (pc := 55) (tgt := 33) g dX3_init_55 (by decide) ?_
  refine qv_iload_n (pc := 33) g dX3_init_33 rfl rfl ?_
  refine qv_bipush (v := 8) (pc := 34) g dX3_init_34 (by decide) ?_
  refine qv_geF (pc := 36) (tgt := 58) g dX3_init_36 (by decide) (by decide) ?_
  refine qv_aload_n (pc := 39) g dX3_init_39 rfl rfl ?_
  refine qv_get1 (pc := 40) (r := b + 1) g fw_RX3_11 (by decide) (qv_at hb (k := 0) rfl) rfl dX3_init_40 ?_
  refine qv_iload_n (pc := 43) g dX3_init_43 rfl rfl ?_
  refine qv_new (pc := 44) (n := 2) (id := b + 5) g nw_RX3_9 rfl (qv_ln hb rfl) (qv_cC hRm (by decide) (by decide)) dX3_init_44 (fun M7 => ?_)
  refine qv_dup (pc := 47) g dX3_init_47 rfl ?_
  refine qv_cin (pc := 48) (T2 := (T0 ++ [(3, 4, [some (some (b + 1)), some (some (b + 2)), none, none]), (36, 8, [some (some (b + 3)), some none, some none, some none, some none, some none, some none, some none]), (20, 8, []), (6, 2, [some (some (b + 4)), none]), (20, 60, []), (6, 2, [some (some (b + 6)), none]), (20, 60, [])])) g (c_X6_init (gl G) X d (T0 ++ [(3, 4, [some (some (b + 1)), some (some (b + 2)), none, none]), (36, 8, [some (some (b + 3)), some none, some none, some none, some none, some none, some none, some none]), (20, 8, []), (6, 2, [some (some (b + 4)), none]), (20, 60, [])]) (b + 5) (qv_ln hb rfl) M7) (List.append_assoc _ _ _) (qv_RC hRm (by omega) (by decide)) (qv_cC hRm (by decide) (by decide)) mw_X6_init ln_RX3_28 im_X6_init rfl pd_X6_init (Nat.le_of_ble_eq_true rfl) dX3_init_48 (fun M8 => ?_)
  refine qv_aast (pc := 51) (T1 := (T0 ++ [(3, 4, [some (some (b + 1)), some (some (b + 2)), none, none]), (36, 8, [some (some (b + 3)), some (some (b + 5)), some none, some none, some none, some none, some none, some none]), (20, 8, []), (6, 2, [some (some (b + 4)), none]), (20, 60, []), (6, 2, [some (some (b + 6)), none]), (20, 60, [])])) (j := 1) g (by decide) (qv_at hb (k := 1) rfl) (qv_at hb (k := 5) rfl) rfl (by decide) (by decide) (by decide) rfl (qv_st hb 1 _) dX3_init_51 ?_
  refine qv_iinc (pc := 52) (v := 2) (lv1 := [(1, .int 2), (0, .ref (X.2.2.2 + b))]) g dX3_init_52 rfl rfl (by decide) rfl ?_
  refine qv_goto (pc := 55) (tgt := 33) g dX3_init_55 (by decide) ?_
  refine qv_iload_n (pc := 33) g dX3_init_33 rfl rfl ?_
  refine qv_bipush (v := 8) (pc := 34) g dX3_init_34 (by decide) ?_
  refine qv_geF (pc := 36) (tgt := 58) g dX3_init_36 (by decide) (by decide) ?_
  refine qv_aload_n (pc := 39) g dX3_init_39 rfl rfl ?_
  refine qv_get1 (pc := 40) (r := b + 1) g fw_RX3_11 (by decide) (qv_at hb (k := 0) rfl) rfl dX3_init_40 ?_
  refine qv_iload_n (pc := 43) g dX3_init_43 rfl rfl ?_
  refine qv_new (pc := 44) (n := 2) (id := b + 7) g nw_RX3_9 rfl (qv_ln hb rfl) (qv_cC hRm (by decide) (by decide)) dX3_init_44 (fun M9 => ?_)
  refine qv_dup (pc := 47) g dX3_init_47 rfl ?_
  refine qv_cin (pc := 48) (T2 := (T0 ++ [(3, 4, [some (some (b + 1)), some (some (b + 2)), none, none]), (36, 8, [some (some (b + 3)), some (some (b + 5)), some none, some none, some none, some none, some none, some none]), (20, 8, []), (6, 2, [some (some (b + 4)), none]), (20, 60, []), (6, 2, [some (some (b + 6)), none]), (20, 60, []), (6, 2, [some (some (b + 8)), none]), (20, 60, [])])) g (c_X6_init (gl G) X d (T0 ++ [(3, 4, [some (some (b + 1)), some (some (b + 2)), none, none]), (36, 8, [some (some (b + 3)), some (some (b + 5)), some none, some none, some none, some none, some none, some none]), (20, 8, []), (6, 2, [some (some (b + 4)), none]), (20, 60, []), (6, 2, [some (some (b + 6)), none]), (20, 60, [])]) (b + 7) (qv_ln hb rfl) M9) (List.append_assoc _ _ _) (qv_RC hRm (by omega) (by decide)) (qv_cC hRm (by decide) (by decide)) mw_X6_init ln_RX3_28 im_X6_init rfl pd_X6_init (Nat.le_of_ble_eq_true rfl) dX3_init_48 (fun M10 => ?_)
  refine qv_aast (pc := 51) (T1 := (T0 ++ [(3, 4, [some (some (b + 1)), some (some (b + 2)), none, none]), (36, 8, [some (some (b + 3)), some (some (b + 5)), some (some (b + 7)), some none, some none, some none, some none, some none]), (20, 8, []), (6, 2, [some (some (b + 4)), none]), (20, 60, []), (6, 2, [some (some (b + 6)), none]), (20, 60, []), (6, 2, [some (some (b + 8)), none]), (20, 60, [])])) (j := 2) g (by decide) (qv_at hb (k := 1) rfl) (qv_at hb (k := 7) rfl) rfl (by decide) (by decide) (by decide) rfl (qv_st hb 1 _) dX3_init_51 ?_
  refine qv_iinc (pc := 52) (v := 3) (lv1 := [(1, .int 3), (0, .ref (X.2.2.2 + b))]) g dX3_init_52 rfl rfl (by decide) rfl ?_
  refine qv_goto (pc := 55) (tgt := 33) g dX3_init_55 (by decide) ?_
  refine qv_iload_n (pc := 33) g dX3_init_33 rfl rfl ?_
  refine qv_bipush (v := 8) (pc := 34) g dX3_init_34 (by decide) ?_
  refine qv_geF (pc := 36) (tgt := 58) g dX3_init_36 (by decide) (by decide) ?_
  refine qv_aload_n (pc := 39) g dX3_init_39 rfl rfl ?_
  refine qv_get1 (pc := 40) (r := b + 1) g fw_RX3_11 (by decide) (qv_at hb (k := 0) rfl) rfl dX3_init_40 ?_
  refine qv_iload_n (pc := 43) g dX3_init_43 rfl rfl ?_
  refine qv_new (pc := 44) (n := 2) (id := b + 9) g nw_RX3_9 rfl (qv_ln hb rfl) (qv_cC hRm (by decide) (by decide)) dX3_init_44 (fun M11 => ?_)
  refine qv_dup (pc := 47) g dX3_init_47 rfl ?_
  refine qv_cin (pc := 48) (T2 := (T0 ++ [(3, 4, [some (some (b + 1)), some (some (b + 2)), none, none]), (36, 8, [some (some (b + 3)), some (some (b + 5)), some (some (b + 7)), some none, some none, some none, some none, some none]), (20, 8, []), (6, 2, [some (some (b + 4)), none]), (20, 60, []), (6, 2, [some (some (b + 6)), none]), (20, 60, []), (6, 2, [some (some (b + 8)), none]), (20, 60, []), (6, 2, [some (some (b + 10)), none]), (20, 60, [])])) g (c_X6_init (gl G) X d (T0 ++ [(3, 4, [some (some (b + 1)), some (some (b + 2)), none, none]), (36, 8, [some (some (b + 3)), some (some (b + 5)), some (some (b + 7)), some none, some none, some none, some none, some none]), (20, 8, []), (6, 2, [some (some (b + 4)), none]), (20, 60, []), (6, 2, [some (some (b + 6)), none]), (20, 60, []), (6, 2, [some (some (b + 8)), none]), (20, 60, [])]) (b + 9) (qv_ln hb rfl) M11) (List.append_assoc _ _ _) (qv_RC hRm (by omega) (by decide)) (qv_cC hRm (by decide) (by decide)) mw_X6_init ln_RX3_28 im_X6_init rfl pd_X6_init (Nat.le_of_ble_eq_true rfl) dX3_init_48 (fun M12 => ?_)
  refine qv_aast (pc := 51) (T1 := (T0 ++ [(3, 4, [some (some (b + 1)), some (some (b + 2)), none, none]), (36, 8, [some (some (b + 3)), some (some (b + 5)), some (some (b + 7)), some (some (b + 9)), some none, some none, some none, some none]), (20, 8, []), (6, 2, [some (some (b + 4)), none]), (20, 60, []), (6, 2, [some (some (b + 6)), none]), (20, 60, []), (6, 2, [some (some (b + 8)), none]), (20, 60, []), (6, 2, [some (some (b + 10)), none]), (20, 60, [])])) (j := 3) g (by decide) (qv_at hb (k := 1) rfl) (qv_at hb (k := 9) rfl) rfl (by decide) (by decide) (by decide) rfl (qv_st hb 1 _) dX3_init_51 ?_
  refine qv_iinc (pc := 52) (v := 4) (lv1 := [(1, .int 4), (0, .ref (X.2.2.2 + b))]) g dX3_init_52 rfl rfl (by decide) rfl ?_
  refine qv_goto (pc := 55) (tgt := 33) g dX3_init_55 (by decide) ?_
  refine qv_iload_n (pc := 33) g dX3_init_33 rfl rfl ?_
  refine qv_bipush (v := 8) (pc := 34) g dX3_init_34 (by decide) ?_
  refine qv_geF (pc := 36) (tgt := 58) g dX3_init_36 (by decide) (by decide) ?_
  refine qv_aload_n (pc := 39) g dX3_init_39 rfl rfl ?_
  refine qv_get1 (pc := 40) (r := b + 1) g fw_RX3_11 (by decide) (qv_at hb (k := 0) rfl) rfl dX3_init_40 ?_
  refine qv_iload_n (pc := 43) g dX3_init_43 rfl rfl ?_
  refine qv_new (pc := 44) (n := 2) (id := b + 11) g nw_RX3_9 rfl (qv_ln hb rfl) (qv_cC hRm (by decide) (by decide)) dX3_init_44 (fun M13 => ?_)
  refine qv_dup (pc := 47) g dX3_init_47 rfl ?_
  refine qv_cin (pc := 48) (T2 := (T0 ++ [(3, 4, [some (some (b + 1)), some (some (b + 2)), none, none]), (36, 8, [some (some (b + 3)), some (some (b + 5)), some (some (b + 7)), some (some (b + 9)), some none, some none, some none, some none]), (20, 8, []), (6, 2, [some (some (b + 4)), none]), (20, 60, []), (6, 2, [some (some (b + 6)), none]), (20, 60, []), (6, 2, [some (some (b + 8)), none]), (20, 60, []), (6, 2, [some (some (b + 10)), none]), (20, 60, []), (6, 2, [some (some (b + 12)), none]), (20, 60, [])])) g (c_X6_init (gl G) X d (T0 ++ [(3, 4, [some (some (b + 1)), some (some (b + 2)), none, none]), (36, 8, [some (some (b + 3)), some (some (b + 5)), some (some (b + 7)), some (some (b + 9)), some none, some none, some none, some none]), (20, 8, []), (6, 2, [some (some (b + 4)), none]), (20, 60, []), (6, 2, [some (some (b + 6)), none]), (20, 60, []), (6, 2, [some (some (b + 8)), none]), (20, 60, []), (6, 2, [some (some (b + 10)), none]), (20, 60, [])]) (b + 11) (qv_ln hb rfl) M13) (List.append_assoc _ _ _) (qv_RC hRm (by omega) (by decide)) (qv_cC hRm (by decide) (by decide)) mw_X6_init ln_RX3_28 im_X6_init rfl pd_X6_init (Nat.le_of_ble_eq_true rfl) dX3_init_48 (fun M14 => ?_)
  refine qv_aast (pc := 51) (T1 := (T0 ++ [(3, 4, [some (some (b + 1)), some (some (b + 2)), none, none]), (36, 8, [some (some (b + 3)), some (some (b + 5)), some (some (b + 7)), some (some (b + 9)), some (some (b + 11)), some none, some none, some none]), (20, 8, []), (6, 2, [some (some (b + 4)), none]), (20, 60, []), (6, 2, [some (some (b + 6)), none]), (20, 60, []), (6, 2, [some (some (b + 8)), none]), (20, 60, []), (6, 2, [some (some (b + 10)), none]), (20, 60, []), (6, 2, [some (some (b + 12)), none]), (20, 60, [])])) (j := 4) g (by decide) (qv_at hb (k := 1) rfl) (qv_at hb (k := 11) rfl) rfl (by decide) (by decide) (by decide) rfl (qv_st hb 1 _) dX3_init_51 ?_
  refine qv_iinc (pc := 52) (v := 5) (lv1 := [(1, .int 5), (0, .ref (X.2.2.2 + b))]) g dX3_init_52 rfl rfl (by decide) rfl ?_
  refine qv_goto (pc := 55) (tgt := 33) g dX3_init_55 (by decide) ?_
  refine qv_iload_n (pc := 33) g dX3_init_33 rfl rfl ?_
  refine qv_bipush (v := 8) (pc := 34) g dX3_init_34 (by decide) ?_
  refine qv_geF (pc := 36) (tgt := 58) g dX3_init_36 (by decide) (by decide) ?_
  refine qv_aload_n (pc := 39) g dX3_init_39 rfl rfl ?_
  refine qv_get1 (pc := 40) (r := b + 1) g fw_RX3_11 (by decide) (qv_at hb (k := 0) rfl) rfl dX3_init_40 ?_
  refine qv_iload_n (pc := 43) g dX3_init_43 rfl rfl ?_
  refine qv_new (pc := 44) (n := 2) (id := b + 13) g nw_RX3_9 rfl (qv_ln hb rfl) (qv_cC hRm (by decide) (by decide)) dX3_init_44 (fun M15 => ?_)
  refine qv_dup (pc := 47) g dX3_init_47 rfl ?_
  refine qv_cin (pc := 48) (T2 := (T0 ++ [(3, 4, [some (some (b + 1)), some (some (b + 2)), none, none]), (36, 8, [some (some (b + 3)), some (some (b + 5)), some (some (b + 7)), some (some (b + 9)), some (some (b + 11)), some none, some none, some none]), (20, 8, []), (6, 2, [some (some (b + 4)), none]), (20, 60, []), (6, 2, [some (some (b + 6)), none]), (20, 60, []), (6, 2, [some (some (b + 8)), none]), (20, 60, []), (6, 2, [some (some (b + 10)), none]), (20, 60, []), (6, 2, [some (some (b + 12)), none]), (20, 60, []), (6, 2, [some (some (b + 14)), none]), (20, 60, [])])) g (c_X6_init (gl G) X d (T0 ++ [(3, 4, [some (some (b + 1)), some (some (b + 2)), none, none]), (36, 8, [some (some (b + 3)), some (some (b + 5)), some (some (b + 7)), some (some (b + 9)), some (some (b + 11)), some none, some none, some none]), (20, 8, []), (6, 2, [some (some (b + 4)), none]), (20, 60, []), (6, 2, [some (some (b + 6)), none]), (20, 60, []), (6, 2, [some (some (b + 8)), none]), (20, 60, []), (6, 2, [some (some (b + 10)), none]), (20, 60, []), (6, 2, [some (some (b + 12)), none]), (20, 60, [])]) (b + 13) (qv_ln hb rfl) M15) (List.append_assoc _ _ _) (qv_RC hRm (by omega) (by decide)) (qv_cC hRm (by decide) (by decide)) mw_X6_init ln_RX3_28 im_X6_init rfl pd_X6_init (Nat.le_of_ble_eq_true rfl) dX3_init_48 (fun M16 => ?_)
  refine qv_aast (pc := 51) (T1 := (T0 ++ [(3, 4, [some (some (b + 1)), some (some (b + 2)), none, none]), (36, 8, [some (some (b + 3)), some (some (b + 5)), some (some (b + 7)), some (some (b + 9)), some (some (b + 11)), some (some (b + 13)), some none, some none]), (20, 8, []), (6, 2, [some (some (b + 4)), none]), (20, 60, []), (6, 2, [some (some (b + 6)), none]), (20, 60, []), (6, 2, [some (some (b + 8)), none]), (20, 60, []), (6, 2, [some (some (b + 10)), none]), (20, 60, []), (6, 2, [some (some (b + 12)), none]), (20, 60, []), (6, 2, [some (some (b + 14)), none]), (20, 60, [])])) (j := 5) g (by decide) (qv_at hb (k := 1) rfl) (qv_at hb (k := 13) rfl) rfl (by decide) (by decide) (by decide) rfl (qv_st hb 1 _) dX3_init_51 ?_
  refine qv_iinc (pc := 52) (v := 6) (lv1 := [(1, .int 6), (0, .ref (X.2.2.2 + b))]) g dX3_init_52 rfl rfl (by decide) rfl ?_
  refine qv_goto (pc := 55) (tgt := 33) g dX3_init_55 (by decide) ?_
  refine qv_iload_n (pc := 33) g dX3_init_33 rfl rfl ?_
  refine qv_bipush (v := 8) (pc := 34) g dX3_init_34 (by decide) ?_
  refine qv_geF (pc := 36) (tgt := 58) g dX3_init_36 (by decide) (by decide) ?_
  refine qv_aload_n (pc := 39) g dX3_init_39 rfl rfl ?_
  refine qv_get1 (pc := 40) (r := b + 1) g fw_RX3_11 (by decide) (qv_at hb (k := 0) rfl) rfl dX3_init_40 ?_
  refine qv_iload_n (pc := 43) g dX3_init_43 rfl rfl ?_
  refine qv_new (pc := 44) (n := 2) (id := b + 15) g nw_RX3_9 rfl (qv_ln hb rfl) (qv_cC hRm (by decide) (by decide)) dX3_init_44 (fun M17 => ?_)
  refine qv_dup (pc := 47) g dX3_init_47 rfl ?_
  refine qv_cin (pc := 48) (T2 := (T0 ++ [(3, 4, [some (some (b + 1)), some (some (b + 2)), none, none]), (36, 8, [some (some (b + 3)), some (some (b + 5)), some (some (b + 7)), some (some (b + 9)), some (some (b + 11)), some (some (b + 13)), some none, some none]), (20, 8, []), (6, 2, [some (some (b + 4)), none]), (20, 60, []), (6, 2, [some (some (b + 6)), none]), (20, 60, []), (6, 2, [some (some (b + 8)), none]), (20, 60, []), (6, 2, [some (some (b + 10)), none]), (20, 60, []), (6, 2, [some (some (b + 12)), none]), (20, 60, []), (6, 2, [some (some (b + 14)), none]), (20, 60, []), (6, 2, [some (some (b + 16)), none]), (20, 60, [])])) g (c_X6_init (gl G) X d (T0 ++ [(3, 4, [some (some (b + 1)), some (some (b + 2)), none, none]), (36, 8, [some (some (b + 3)), some (some (b + 5)), some (some (b + 7)), some (some (b + 9)), some (some (b + 11)), some (some (b + 13)), some none, some none]), (20, 8, []), (6, 2, [some (some (b + 4)), none]), (20, 60, []), (6, 2, [some (some (b + 6)), none]), (20, 60, []), (6, 2, [some (some (b + 8)), none]), (20, 60, []), (6, 2, [some (some (b + 10)), none]), (20, 60, []), (6, 2, [some (some (b + 12)), none]), (20, 60, []), (6, 2, [some (some (b + 14)), none]), (20, 60, [])]) (b + 15) (qv_ln hb rfl) M17) (List.append_assoc _ _ _) (qv_RC hRm (by omega) (by decide)) (qv_cC hRm (by decide) (by decide)) mw_X6_init ln_RX3_28 im_X6_init rfl pd_X6_init (Nat.le_of_ble_eq_true rfl) dX3_init_48 (fun M18 => ?_)
  refine qv_aast (pc := 51) (T1 := (T0 ++ [(3, 4, [some (some (b + 1)), some (some (b + 2)), none, none]), (36, 8, [some (some (b + 3)), some (some (b + 5)), some (some (b + 7)), some (some (b + 9)), some (some (b + 11)), some (some (b + 13)), some (some (b + 15)), some none]), (20, 8, []), (6, 2, [some (some (b + 4)), none]), (20, 60, []), (6, 2, [some (some (b + 6)), none]), (20, 60, []), (6, 2, [some (some (b + 8)), none]), (20, 60, []), (6, 2, [some (some (b + 10)), none]), (20, 60, []), (6, 2, [some (some (b + 12)), none]), (20, 60, []), (6, 2, [some (some (b + 14)), none]), (20, 60, []), (6, 2, [some (some (b + 16)), none]), (20, 60, [])])) (j := 6) g (by decide) (qv_at hb (k := 1) rfl) (qv_at hb (k := 15) rfl) rfl (by decide) (by decide) (by decide) rfl (qv_st hb 1 _) dX3_init_51 ?_
  refine qv_iinc (pc := 52) (v := 7) (lv1 := [(1, .int 7), (0, .ref (X.2.2.2 + b))]) g dX3_init_52 rfl rfl (by decide) rfl ?_
  refine qv_goto (pc := 55) (tgt := 33) g dX3_init_55 (by decide) ?_
  refine qv_iload_n (pc := 33) g dX3_init_33 rfl rfl ?_
  refine qv_bipush (v := 8) (pc := 34) g dX3_init_34 (by decide) ?_
  refine qv_geF (pc := 36) (tgt := 58) g dX3_init_36 (by decide) (by decide) ?_
  refine qv_aload_n (pc := 39) g dX3_init_39 rfl rfl ?_
  refine qv_get1 (pc := 40) (r := b + 1) g fw_RX3_11 (by decide) (qv_at hb (k := 0) rfl) rfl dX3_init_40 ?_
  refine qv_iload_n (pc := 43) g dX3_init_43 rfl rfl ?_
  refine qv_new (pc := 44) (n := 2) (id := b + 17) g nw_RX3_9 rfl (qv_ln hb rfl) (qv_cC hRm (by decide) (by decide)) dX3_init_44 (fun M19 => ?_)
  refine qv_dup (pc := 47) g dX3_init_47 rfl ?_
  refine qv_cin (pc := 48) (T2 := (T0 ++ [(3, 4, [some (some (b + 1)), some (some (b + 2)), none, none]), (36, 8, [some (some (b + 3)), some (some (b + 5)), some (some (b + 7)), some (some (b + 9)), some (some (b + 11)), some (some (b + 13)), some (some (b + 15)), some none]), (20, 8, []), (6, 2, [some (some (b + 4)), none]), (20, 60, []), (6, 2, [some (some (b + 6)), none]), (20, 60, []), (6, 2, [some (some (b + 8)), none]), (20, 60, []), (6, 2, [some (some (b + 10)), none]), (20, 60, []), (6, 2, [some (some (b + 12)), none]), (20, 60, []), (6, 2, [some (some (b + 14)), none]), (20, 60, []), (6, 2, [some (some (b + 16)), none]), (20, 60, []), (6, 2, [some (some (b + 18)), none]), (20, 60, [])])) g (c_X6_init (gl G) X d (T0 ++ [(3, 4, [some (some (b + 1)), some (some (b + 2)), none, none]), (36, 8, [some (some (b + 3)), some (some (b + 5)), some (some (b + 7)), some (some (b + 9)), some (some (b + 11)), some (some (b + 13)), some (some (b + 15)), some none]), (20, 8, []), (6, 2, [some (some (b + 4)), none]), (20, 60, []), (6, 2, [some (some (b + 6)), none]), (20, 60, []), (6, 2, [some (some (b + 8)), none]), (20, 60, []), (6, 2, [some (some (b + 10)), none]), (20, 60, []), (6, 2, [some (some (b + 12)), none]), (20, 60, []), (6, 2, [some (some (b + 14)), none]), (20, 60, []), (6, 2, [some (some (b + 16)), none]), (20, 60, [])]) (b + 17) (qv_ln hb rfl) M19) (List.append_assoc _ _ _) (qv_RC hRm (by omega) (by decide)) (qv_cC hRm (by decide) (by decide)) mw_X6_init ln_RX3_28 im_X6_init rfl pd_X6_init (Nat.le_of_ble_eq_true rfl) dX3_init_48 (fun M20 => ?_)
  refine qv_aast (pc := 51) (T1 := (T0 ++ [(3, 4, [some (some (b + 1)), some (some (b + 2)), none, none]), (36, 8, [some (some (b + 3)), some (some (b + 5)), some (some (b + 7)), some (some (b + 9)), some (some (b + 11)), some (some (b + 13)), some (some (b + 15)), some (some (b + 17))]), (20, 8, []), (6, 2, [some (some (b + 4)), none]), (20, 60, []), (6, 2, [some (some (b + 6)), none]), (20, 60, []), (6, 2, [some (some (b + 8)), none]), (20, 60, []), (6, 2, [some (some (b + 10)), none]), (20, 60, []), (6, 2, [some (some (b + 12)), none]), (20, 60, []), (6, 2, [some (some (b + 14)), none]), (20, 60, []), (6, 2, [some (some (b + 16)), none]), (20, 60, []), (6, 2, [some (some (b + 18)), none]), (20, 60, [])])) (j := 7) g (by decide) (qv_at hb (k := 1) rfl) (qv_at hb (k := 17) rfl) rfl (by decide) (by decide) (by decide) rfl (qv_st hb 1 _) dX3_init_51 ?_
  refine qv_iinc (pc := 52) (v := 8) (lv1 := [(1, .int 8), (0, .ref (X.2.2.2 + b))]) g dX3_init_52 rfl rfl (by decide) rfl ?_
  refine qv_goto (pc := 55) (tgt := 33) g dX3_init_55 (by decide) ?_
  refine qv_iload_n (pc := 33) g dX3_init_33 rfl rfl ?_
  refine qv_bipush (v := 8) (pc := 34) g dX3_init_34 (by decide) ?_
  refine qv_geT (pc := 36) (tgt := 58) g dX3_init_36 (by decide) (by decide) ?_
  exact qv_vret (pc := 58) g hr rfl dX3_init_58

def K_X8 (b : Nat) : List qv_Ent := [(8, 2, [some (some (b + 1)), none]), (20, 80, [])]
noncomputable def g_X8 (T0 : List qv_Ent) (b : Nat) (M : qv_Mem) : Option qv_Mem :=
 qv_al (b + 1) M (fun M1 =>
 qv_pS (b) 1 0 M1 (fun M2 =>
 some M2))
set_option maxHeartbeats 4000000 in
set_option maxRecDepth 100000 in
theorem c_X8_init (l : Launch) (X : qv_X) (d : Nat) (T0 : List qv_Ent) (b : Nat) (hb : T0.length = b) (M : qv_Mem) : qv_OkC l X yX8_init cX8_init 1 (d) 1 80 (T0 ++ [(8, 2, [some none, none])]) (T0 ++ K_X8 b) M [.ref (X.2.2.2 + b)] (g_X8 T0 b M) := by
  refine qv_mkC (lv := [(0, .ref (X.2.2.2 + b))]) (by decide) (Nat.le_of_ble_eq_true rfl) rfl rfl (fun G hG hRm g hr hin => ?_)
  have g : qv_ok G X cX8_init RX8 1 := g
  unfold g_X8
  refine qv_aload_n (pc := 0) g dX8_init_0 rfl rfl ?_
  refine qv_obj (pc := 1) g lk_RX8_3 im_obj cd_obj (Nat.le_of_ble_eq_true rfl) dX8_init_1 ?_
  refine qv_aload_n (pc := 4) g dX8_init_4 rfl rfl ?_
  refine qv_bipush (v := 80) (pc := 5) g dX8_init_5 (by decide) ?_
  refine qv_newI (pc := 7) (n := 80) (id := b + 1) g ac_int (by decide) (by decide) (by decide) (qv_ln hb rfl) (qv_cC hRm (by decide) (by decide)) dX8_init_7 (fun M1 => ?_)
  refine qv_T (T1 := (T0 ++ [(8, 2, [some none, none]), (20, 80, [])])) (List.append_assoc _ _ _) ?_
  refine qv_putF (pc := 9) (T1 := (T0 ++ [(8, 2, [some (some (b + 1)), none]), (20, 80, [])])) g pw_RX8_9 rfl hin (by decide) (qv_at hb (k := 0) rfl) (Nat.le_of_ble_eq_true rfl) rfl (qv_st hb 0 _) rfl rfl dX8_init_9 ?_
  refine qv_aload_n (pc := 12) g dX8_init_12 rfl rfl ?_
  refine qv_iconst (v := 0) (pc := 13) g dX8_init_13 (by decide) ?_
  refine qv_put1 (pc := 14) g pw_RX8_15 rfl rfl (by decide) (qv_at hb (k := 0) rfl) (Nat.le_of_ble_eq_true rfl) rfl dX8_init_14 (fun M2 => ?_)
  exact qv_vret (pc := 17) g hr rfl dX8_init_17

def K_X5 (b : Nat) : List qv_Ent := [(5, 7, [some (some (b + 1)), some (some (b + 2)), some (some (b + 3)), some (some (b + 4)), none, none, none]), (20, 300, []), (20, 60, []), (20, 5, []), (20, 5, [])]
noncomputable def g_X5 (T0 : List qv_Ent) (b : Nat) (M : qv_Mem) : Option qv_Mem :=
 qv_al (b + 1) M (fun M1 =>
 qv_al (b + 2) M1 (fun M2 =>
 qv_al (b + 3) M2 (fun M3 =>
 qv_al (b + 4) M3 (fun M4 =>
 qv_pS (b) 4 0 M4 (fun M5 =>
 qv_pS (b) 5 0 M5 (fun M6 =>
 qv_pS (b) 6 0 M6 (fun M7 =>
 some M7)))))))
set_option maxHeartbeats 4000000 in
set_option maxRecDepth 100000 in
theorem c_X5_init (l : Launch) (X : qv_X) (d : Nat) (T0 : List qv_Ent) (b : Nat) (hb : T0.length = b) (M : qv_Mem) : qv_OkC l X yX5_init cX5_init 1 (d) 4 370 (T0 ++ [(5, 7, [some none, some none, some none, some none, none, none, none])]) (T0 ++ K_X5 b) M [.ref (X.2.2.2 + b)] (g_X5 T0 b M) := by
  refine qv_mkC (lv := [(0, .ref (X.2.2.2 + b))]) (by decide) (Nat.le_of_ble_eq_true rfl) rfl rfl (fun G hG hRm g hr hin => ?_)
  have g : qv_ok G X cX5_init RX5 1 := g
  unfold g_X5
  refine qv_aload_n (pc := 0) g dX5_init_0 rfl rfl ?_
  refine qv_obj (pc := 1) g lk_RX5_3 im_obj cd_obj (Nat.le_of_ble_eq_true rfl) dX5_init_1 ?_
  refine qv_aload_n (pc := 4) g dX5_init_4 rfl rfl ?_
  refine qv_sipush (v := 300) (pc := 5) g dX5_init_5 (by decide) ?_
  refine qv_newI (pc := 8) (n := 300) (id := b + 1) g ac_int (by decide) (by decide) (by decide) (qv_ln hb rfl) (qv_cC hRm (by decide) (by decide)) dX5_init_8 (fun M1 => ?_)
  refine qv_T (T1 := (T0 ++ [(5, 7, [some none, some none, some none, some none, none, none, none]), (20, 300, [])])) (List.append_assoc _ _ _) ?_
  refine qv_putF (pc := 10) (T1 := (T0 ++ [(5, 7, [some (some (b + 1)), some none, some none, some none, none, none, none]), (20, 300, [])])) g pw_RX5_9 rfl hin (by decide) (qv_at hb (k := 0) rfl) (Nat.le_of_ble_eq_true rfl) rfl (qv_st hb 0 _) rfl rfl dX5_init_10 ?_
  refine qv_aload_n (pc := 13) g dX5_init_13 rfl rfl ?_
  refine qv_bipush (v := 60) (pc := 14) g dX5_init_14 (by decide) ?_
  refine qv_newI (pc := 16) (n := 60) (id := b + 2) g ac_int (by decide) (by decide) (by decide) (qv_ln hb rfl) (qv_cC hRm (by decide) (by decide)) dX5_init_16 (fun M2 => ?_)
  refine qv_T (T1 := (T0 ++ [(5, 7, [some (some (b + 1)), some none, some none, some none, none, none, none]), (20, 300, []), (20, 60, [])])) (List.append_assoc _ _ _) ?_
  refine qv_putF (pc := 18) (T1 := (T0 ++ [(5, 7, [some (some (b + 1)), some (some (b + 2)), some none, some none, none, none, none]), (20, 300, []), (20, 60, [])])) g pw_RX5_15 rfl hin (by decide) (qv_at hb (k := 0) rfl) (Nat.le_of_ble_eq_true rfl) rfl (qv_st hb 0 _) rfl rfl dX5_init_18 ?_
  refine qv_aload_n (pc := 21) g dX5_init_21 rfl rfl ?_
  refine qv_iconst (v := 5) (pc := 22) g dX5_init_22 (by decide) ?_
  refine qv_newI (pc := 23) (n := 5) (id := b + 3) g ac_int (by decide) (by decide) (by decide) (qv_ln hb rfl) (qv_cC hRm (by decide) (by decide)) dX5_init_23 (fun M3 => ?_)
  refine qv_T (T1 := (T0 ++ [(5, 7, [some (some (b + 1)), some (some (b + 2)), some none, some none, none, none, none]), (20, 300, []), (20, 60, []), (20, 5, [])])) (List.append_assoc _ _ _) ?_
  refine qv_putF (pc := 25) (T1 := (T0 ++ [(5, 7, [some (some (b + 1)), some (some (b + 2)), some (some (b + 3)), some none, none, none, none]), (20, 300, []), (20, 60, []), (20, 5, [])])) g pw_RX5_18 rfl hin (by decide) (qv_at hb (k := 0) rfl) (Nat.le_of_ble_eq_true rfl) rfl (qv_st hb 0 _) rfl rfl dX5_init_25 ?_
  refine qv_aload_n (pc := 28) g dX5_init_28 rfl rfl ?_
  refine qv_iconst (v := 5) (pc := 29) g dX5_init_29 (by decide) ?_
  refine qv_newI (pc := 30) (n := 5) (id := b + 4) g ac_int (by decide) (by decide) (by decide) (qv_ln hb rfl) (qv_cC hRm (by decide) (by decide)) dX5_init_30 (fun M4 => ?_)
  refine qv_T (T1 := (T0 ++ [(5, 7, [some (some (b + 1)), some (some (b + 2)), some (some (b + 3)), some none, none, none, none]), (20, 300, []), (20, 60, []), (20, 5, []), (20, 5, [])])) (List.append_assoc _ _ _) ?_
  refine qv_putF (pc := 32) (T1 := (T0 ++ [(5, 7, [some (some (b + 1)), some (some (b + 2)), some (some (b + 3)), some (some (b + 4)), none, none, none]), (20, 300, []), (20, 60, []), (20, 5, []), (20, 5, [])])) g pw_RX5_21 rfl hin (by decide) (qv_at hb (k := 0) rfl) (Nat.le_of_ble_eq_true rfl) rfl (qv_st hb 0 _) rfl rfl dX5_init_32 ?_
  refine qv_aload_n (pc := 35) g dX5_init_35 rfl rfl ?_
  refine qv_iconst (v := 0) (pc := 36) g dX5_init_36 (by decide) ?_
  refine qv_put1 (pc := 37) g pw_RX5_24 rfl rfl (by decide) (qv_at hb (k := 0) rfl) (Nat.le_of_ble_eq_true rfl) rfl dX5_init_37 (fun M5 => ?_)
  refine qv_aload_n (pc := 40) g dX5_init_40 rfl rfl ?_
  refine qv_iconst (v := 0) (pc := 41) g dX5_init_41 (by decide) ?_
  refine qv_put1 (pc := 42) g pw_RX5_28 rfl rfl (by decide) (qv_at hb (k := 0) rfl) (Nat.le_of_ble_eq_true rfl) rfl dX5_init_42 (fun M6 => ?_)
  refine qv_aload_n (pc := 45) g dX5_init_45 rfl rfl ?_
  refine qv_iconst (v := 0) (pc := 46) g dX5_init_46 (by decide) ?_
  refine qv_put1 (pc := 47) g pw_RX5_31 rfl rfl (by decide) (qv_at hb (k := 0) rfl) (Nat.le_of_ble_eq_true rfl) rfl dX5_init_47 (fun M7 => ?_)
  exact qv_vret (pc := 50) g hr rfl dX5_init_50

def K_X2 (b : Nat) : List qv_Ent := [(2, 10, [some (some (b + 1)), some (some (b + 2)), some (some (b + 3)), some (some (b + 4)), some (some (b + 5)), some (some (b + 6)), some (some (b + 7)), some (some (b + 8)), none, none]), (20, 192, []), (20, 1344, []), (20, 1344, []), (20, 192, []), (20, 192, []), (20, 192, []), (20, 7, []), (7, 2, [some (some (b + 9)), none]), (21, 16, [])]
noncomputable def g_X2 (T0 : List qv_Ent) (b : Nat) (M : qv_Mem) : Option qv_Mem :=
 qv_al (b + 1) M (fun M1 =>
 qv_al (b + 2) M1 (fun M2 =>
 qv_al (b + 3) M2 (fun M3 =>
 qv_al (b + 4) M3 (fun M4 =>
 qv_al (b + 5) M4 (fun M5 =>
 qv_al (b + 6) M5 (fun M6 =>
 qv_al (b + 7) M6 (fun M7 =>
 qv_al (b + 8) M7 (fun M8 =>
 qv_bo (g_X7 (T0 ++ [(2, 10, [some (some (b + 1)), some (some (b + 2)), some (some (b + 3)), some (some (b + 4)), some (some (b + 5)), some (some (b + 6)), some (some (b + 7)), some none, none, none]), (20, 192, []), (20, 1344, []), (20, 1344, []), (20, 192, []), (20, 192, []), (20, 192, []), (20, 7, [])]) (b + 8) M8) (fun M9 =>
 qv_pS (b) 8 0 M9 (fun M10 =>
 qv_pS (b) 9 0 M10 (fun M11 =>
 some M11)))))))))))
set_option maxHeartbeats 4000000 in
set_option maxRecDepth 100000 in
theorem c_X2_init (l : Launch) (X : qv_X) (d : Nat) (T0 : List qv_Ent) (b : Nat) (hb : T0.length = b) (M : qv_Mem) : qv_OkC l X yX2_init cX2_init 1 (d + 3) 9 3481 (T0 ++ [(2, 10, [some none, some none, some none, some none, some none, some none, some none, some none, none, none])]) (T0 ++ K_X2 b) M [.ref (X.2.2.2 + b)] (g_X2 T0 b M) := by
  refine qv_mkC (lv := [(0, .ref (X.2.2.2 + b))]) (by decide) (Nat.le_of_ble_eq_true rfl) rfl rfl (fun G hG hRm g hr hin => ?_)
  have g : qv_ok G X cX2_init RX2 1 := g
  unfold g_X2
  refine qv_aload_n (pc := 0) g dX2_init_0 rfl rfl ?_
  refine qv_obj (pc := 1) g lk_RX2_3 im_obj cd_obj (Nat.le_of_ble_eq_true rfl) dX2_init_1 ?_
  refine qv_aload_n (pc := 4) g dX2_init_4 rfl rfl ?_
  refine qv_sipush (v := 192) (pc := 5) g dX2_init_5 (by decide) ?_
  refine qv_newI (pc := 8) (n := 192) (id := b + 1) g ac_int (by decide) (by decide) (by decide) (qv_ln hb rfl) (qv_cC hRm (by decide) (by decide)) dX2_init_8 (fun M1 => ?_)
  refine qv_T (T1 := (T0 ++ [(2, 10, [some none, some none, some none, some none, some none, some none, some none, some none, none, none]), (20, 192, [])])) (List.append_assoc _ _ _) ?_
  refine qv_putF (pc := 10) (T1 := (T0 ++ [(2, 10, [some (some (b + 1)), some none, some none, some none, some none, some none, some none, some none, none, none]), (20, 192, [])])) g pw_RX2_9 rfl hin (by decide) (qv_at hb (k := 0) rfl) (Nat.le_of_ble_eq_true rfl) rfl (qv_st hb 0 _) rfl rfl dX2_init_10 ?_
  refine qv_aload_n (pc := 13) g dX2_init_13 rfl rfl ?_
  refine qv_sipush (v := 1344) (pc := 14) g dX2_init_14 (by decide) ?_
  refine qv_newI (pc := 17) (n := 1344) (id := b + 2) g ac_int (by decide) (by decide) (by decide) (qv_ln hb rfl) (qv_cC hRm (by decide) (by decide)) dX2_init_17 (fun M2 => ?_)
  refine qv_T (T1 := (T0 ++ [(2, 10, [some (some (b + 1)), some none, some none, some none, some none, some none, some none, some none, none, none]), (20, 192, []), (20, 1344, [])])) (List.append_assoc _ _ _) ?_
  refine qv_putF (pc := 19) (T1 := (T0 ++ [(2, 10, [some (some (b + 1)), some (some (b + 2)), some none, some none, some none, some none, some none, some none, none, none]), (20, 192, []), (20, 1344, [])])) g pw_RX2_15 rfl hin (by decide) (qv_at hb (k := 0) rfl) (Nat.le_of_ble_eq_true rfl) rfl (qv_st hb 0 _) rfl rfl dX2_init_19 ?_
  refine qv_aload_n (pc := 22) g dX2_init_22 rfl rfl ?_
  refine qv_sipush (v := 1344) (pc := 23) g dX2_init_23 (by decide) ?_
  refine qv_newI (pc := 26) (n := 1344) (id := b + 3) g ac_int (by decide) (by decide) (by decide) (qv_ln hb rfl) (qv_cC hRm (by decide) (by decide)) dX2_init_26 (fun M3 => ?_)
  refine qv_T (T1 := (T0 ++ [(2, 10, [some (some (b + 1)), some (some (b + 2)), some none, some none, some none, some none, some none, some none, none, none]), (20, 192, []), (20, 1344, []), (20, 1344, [])])) (List.append_assoc _ _ _) ?_
  refine qv_putF (pc := 28) (T1 := (T0 ++ [(2, 10, [some (some (b + 1)), some (some (b + 2)), some (some (b + 3)), some none, some none, some none, some none, some none, none, none]), (20, 192, []), (20, 1344, []), (20, 1344, [])])) g pw_RX2_18 rfl hin (by decide) (qv_at hb (k := 0) rfl) (Nat.le_of_ble_eq_true rfl) rfl (qv_st hb 0 _) rfl rfl dX2_init_28 ?_
  refine qv_aload_n (pc := 31) g dX2_init_31 rfl rfl ?_
  refine qv_sipush (v := 192) (pc := 32) g dX2_init_32 (by decide) ?_
  refine qv_newI (pc := 35) (n := 192) (id := b + 4) g ac_int (by decide) (by decide) (by decide) (qv_ln hb rfl) (qv_cC hRm (by decide) (by decide)) dX2_init_35 (fun M4 => ?_)
  refine qv_T (T1 := (T0 ++ [(2, 10, [some (some (b + 1)), some (some (b + 2)), some (some (b + 3)), some none, some none, some none, some none, some none, none, none]), (20, 192, []), (20, 1344, []), (20, 1344, []), (20, 192, [])])) (List.append_assoc _ _ _) ?_
  refine qv_putF (pc := 37) (T1 := (T0 ++ [(2, 10, [some (some (b + 1)), some (some (b + 2)), some (some (b + 3)), some (some (b + 4)), some none, some none, some none, some none, none, none]), (20, 192, []), (20, 1344, []), (20, 1344, []), (20, 192, [])])) g pw_RX2_21 rfl hin (by decide) (qv_at hb (k := 0) rfl) (Nat.le_of_ble_eq_true rfl) rfl (qv_st hb 0 _) rfl rfl dX2_init_37 ?_
  refine qv_aload_n (pc := 40) g dX2_init_40 rfl rfl ?_
  refine qv_sipush (v := 192) (pc := 41) g dX2_init_41 (by decide) ?_
  refine qv_newI (pc := 44) (n := 192) (id := b + 5) g ac_int (by decide) (by decide) (by decide) (qv_ln hb rfl) (qv_cC hRm (by decide) (by decide)) dX2_init_44 (fun M5 => ?_)
  refine qv_T (T1 := (T0 ++ [(2, 10, [some (some (b + 1)), some (some (b + 2)), some (some (b + 3)), some (some (b + 4)), some none, some none, some none, some none, none, none]), (20, 192, []), (20, 1344, []), (20, 1344, []), (20, 192, []), (20, 192, [])])) (List.append_assoc _ _ _) ?_
  refine qv_putF (pc := 46) (T1 := (T0 ++ [(2, 10, [some (some (b + 1)), some (some (b + 2)), some (some (b + 3)), some (some (b + 4)), some (some (b + 5)), some none, some none, some none, none, none]), (20, 192, []), (20, 1344, []), (20, 1344, []), (20, 192, []), (20, 192, [])])) g pw_RX2_24 rfl hin (by decide) (qv_at hb (k := 0) rfl) (Nat.le_of_ble_eq_true rfl) rfl (qv_st hb 0 _) rfl rfl dX2_init_46 ?_
  refine qv_aload_n (pc := 49) g dX2_init_49 rfl rfl ?_
  refine qv_sipush (v := 192) (pc := 50) g dX2_init_50 (by decide) ?_
  refine qv_newI (pc := 53) (n := 192) (id := b + 6) g ac_int (by decide) (by decide) (by decide) (qv_ln hb rfl) (qv_cC hRm (by decide) (by decide)) dX2_init_53 (fun M6 => ?_)
  refine qv_T (T1 := (T0 ++ [(2, 10, [some (some (b + 1)), some (some (b + 2)), some (some (b + 3)), some (some (b + 4)), some (some (b + 5)), some none, some none, some none, none, none]), (20, 192, []), (20, 1344, []), (20, 1344, []), (20, 192, []), (20, 192, []), (20, 192, [])])) (List.append_assoc _ _ _) ?_
  refine qv_putF (pc := 55) (T1 := (T0 ++ [(2, 10, [some (some (b + 1)), some (some (b + 2)), some (some (b + 3)), some (some (b + 4)), some (some (b + 5)), some (some (b + 6)), some none, some none, none, none]), (20, 192, []), (20, 1344, []), (20, 1344, []), (20, 192, []), (20, 192, []), (20, 192, [])])) g pw_RX2_27 rfl hin (by decide) (qv_at hb (k := 0) rfl) (Nat.le_of_ble_eq_true rfl) rfl (qv_st hb 0 _) rfl rfl dX2_init_55 ?_
  refine qv_aload_n (pc := 58) g dX2_init_58 rfl rfl ?_
  refine qv_bipush (v := 7) (pc := 59) g dX2_init_59 (by decide) ?_
  refine qv_newI (pc := 61) (n := 7) (id := b + 7) g ac_int (by decide) (by decide) (by decide) (qv_ln hb rfl) (qv_cC hRm (by decide) (by decide)) dX2_init_61 (fun M7 => ?_)
  refine qv_T (T1 := (T0 ++ [(2, 10, [some (some (b + 1)), some (some (b + 2)), some (some (b + 3)), some (some (b + 4)), some (some (b + 5)), some (some (b + 6)), some none, some none, none, none]), (20, 192, []), (20, 1344, []), (20, 1344, []), (20, 192, []), (20, 192, []), (20, 192, []), (20, 7, [])])) (List.append_assoc _ _ _) ?_
  refine qv_putF (pc := 63) (T1 := (T0 ++ [(2, 10, [some (some (b + 1)), some (some (b + 2)), some (some (b + 3)), some (some (b + 4)), some (some (b + 5)), some (some (b + 6)), some (some (b + 7)), some none, none, none]), (20, 192, []), (20, 1344, []), (20, 1344, []), (20, 192, []), (20, 192, []), (20, 192, []), (20, 7, [])])) g pw_RX2_30 rfl hin (by decide) (qv_at hb (k := 0) rfl) (Nat.le_of_ble_eq_true rfl) rfl (qv_st hb 0 _) rfl rfl dX2_init_63 ?_
  refine qv_aload_n (pc := 66) g dX2_init_66 rfl rfl ?_
  refine qv_new (pc := 67) (n := 2) (id := b + 8) g nw_RX2_33 rfl (qv_ln hb rfl) (qv_cC hRm (by decide) (by decide)) dX2_init_67 (fun M8 => ?_)
  refine qv_dup (pc := 70) g dX2_init_70 rfl ?_
  refine qv_ci (pc := 71) (T2 := (T0 ++ [(2, 10, [some (some (b + 1)), some (some (b + 2)), some (some (b + 3)), some (some (b + 4)), some (some (b + 5)), some (some (b + 6)), some (some (b + 7)), some none, none, none]), (20, 192, []), (20, 1344, []), (20, 1344, []), (20, 192, []), (20, 192, []), (20, 192, []), (20, 7, []), (7, 2, [some (some (b + 9)), none]), (21, 16, [])])) g (c_X7_init (gl G) X d (T0 ++ [(2, 10, [some (some (b + 1)), some (some (b + 2)), some (some (b + 3)), some (some (b + 4)), some (some (b + 5)), some (some (b + 6)), some (some (b + 7)), some none, none, none]), (20, 192, []), (20, 1344, []), (20, 1344, []), (20, 192, []), (20, 192, []), (20, 192, []), (20, 7, [])]) (b + 8) (qv_ln hb rfl) M8) (List.append_assoc _ _ _) (qv_RC hRm (by omega) (by decide)) (qv_cC hRm (by decide) (by decide)) mw_X7_init lk_RX2_35 im_X7_init rfl pd_X7_init (Nat.le_of_ble_eq_true rfl) dX2_init_71 (fun M9 => ?_)
  refine qv_putF (pc := 74) (T1 := (T0 ++ [(2, 10, [some (some (b + 1)), some (some (b + 2)), some (some (b + 3)), some (some (b + 4)), some (some (b + 5)), some (some (b + 6)), some (some (b + 7)), some (some (b + 8)), none, none]), (20, 192, []), (20, 1344, []), (20, 1344, []), (20, 192, []), (20, 192, []), (20, 192, []), (20, 7, []), (7, 2, [some (some (b + 9)), none]), (21, 16, [])])) g pw_RX2_36 rfl hin (by decide) (qv_at hb (k := 0) rfl) (Nat.le_of_ble_eq_true rfl) rfl (qv_st hb 0 _) rfl rfl dX2_init_74 ?_
  refine qv_aload_n (pc := 77) g dX2_init_77 rfl rfl ?_
  refine qv_iconst (v := 0) (pc := 78) g dX2_init_78 (by decide) ?_
  refine qv_put1 (pc := 79) g pw_RX2_40 rfl rfl (by decide) (qv_at hb (k := 0) rfl) (Nat.le_of_ble_eq_true rfl) rfl dX2_init_79 (fun M10 => ?_)
  refine qv_aload_n (pc := 82) g dX2_init_82 rfl rfl ?_
  refine qv_iconst (v := 0) (pc := 83) g dX2_init_83 (by decide) ?_
  refine qv_put1 (pc := 84) g pw_RX2_44 rfl rfl (by decide) (qv_at hb (k := 0) rfl) (Nat.le_of_ble_eq_true rfl) rfl dX2_init_84 (fun M11 => ?_)
  exact qv_vret (pc := 87) g hr rfl dX2_init_87

def K_X1 (b : Nat) : List qv_Ent := [(1, 6, [some (some (b + 1)), some (some (b + 2)), none, some (some (b + 3)), some (some (b + 5)), some (some (b + 7))]), (21, 9, []), (21, 9, []), (7, 2, [some (some (b + 4)), none]), (21, 16, []), (7, 2, [some (some (b + 6)), none]), (21, 16, []), (7, 2, [some (some (b + 8)), none]), (21, 16, [])]
noncomputable def g_X1 (T0 : List qv_Ent) (b : Nat) (M : qv_Mem) : Option qv_Mem :=
 qv_al (b + 1) M (fun M1 =>
 qv_al (b + 2) M1 (fun M2 =>
 qv_pS (b) 2 0 M2 (fun M3 =>
 qv_al (b + 3) M3 (fun M4 =>
 qv_bo (g_X7 (T0 ++ [(1, 6, [some (some (b + 1)), some (some (b + 2)), none, some none, some none, some none]), (21, 9, []), (21, 9, [])]) (b + 3) M4) (fun M5 =>
 qv_al (b + 5) M5 (fun M6 =>
 qv_bo (g_X7 (T0 ++ [(1, 6, [some (some (b + 1)), some (some (b + 2)), none, some (some (b + 3)), some none, some none]), (21, 9, []), (21, 9, []), (7, 2, [some (some (b + 4)), none]), (21, 16, [])]) (b + 5) M6) (fun M7 =>
 qv_al (b + 7) M7 (fun M8 =>
 qv_bo (g_X7 (T0 ++ [(1, 6, [some (some (b + 1)), some (some (b + 2)), none, some (some (b + 3)), some (some (b + 5)), some none]), (21, 9, []), (21, 9, []), (7, 2, [some (some (b + 4)), none]), (21, 16, []), (7, 2, [some (some (b + 6)), none]), (21, 16, [])]) (b + 7) M8) (fun M9 =>
 some M9)))))))))
set_option maxHeartbeats 4000000 in
set_option maxRecDepth 100000 in
theorem c_X1_init (l : Launch) (X : qv_X) (d : Nat) (T0 : List qv_Ent) (b : Nat) (hb : T0.length = b) (M : qv_Mem) : qv_OkC l X yX1_init cX1_init 1 (d + 3) 8 72 (T0 ++ [(1, 6, [some none, some none, none, some none, some none, some none])]) (T0 ++ K_X1 b) M [.ref (X.2.2.2 + b)] (g_X1 T0 b M) := by
  refine qv_mkC (lv := [(0, .ref (X.2.2.2 + b))]) (by decide) (Nat.le_of_ble_eq_true rfl) rfl rfl (fun G hG hRm g hr hin => ?_)
  have g : qv_ok G X cX1_init RX1 1 := g
  unfold g_X1
  refine qv_aload_n (pc := 0) g dX1_init_0 rfl rfl ?_
  refine qv_obj (pc := 1) g lk_RX1_3 im_obj cd_obj (Nat.le_of_ble_eq_true rfl) dX1_init_1 ?_
  refine qv_aload_n (pc := 4) g dX1_init_4 rfl rfl ?_
  refine qv_bipush (v := 9) (pc := 5) g dX1_init_5 (by decide) ?_
  refine qv_newL (pc := 7) (n := 9) (id := b + 1) g ac_long (by decide) (by decide) (by decide) (qv_ln hb rfl) (qv_cC hRm (by decide) (by decide)) dX1_init_7 (fun M1 => ?_)
  refine qv_T (T1 := (T0 ++ [(1, 6, [some none, some none, none, some none, some none, some none]), (21, 9, [])])) (List.append_assoc _ _ _) ?_
  refine qv_putF (pc := 9) (T1 := (T0 ++ [(1, 6, [some (some (b + 1)), some none, none, some none, some none, some none]), (21, 9, [])])) g pw_RX1_11 rfl hin (by decide) (qv_at hb (k := 0) rfl) (Nat.le_of_ble_eq_true rfl) rfl (qv_st hb 0 _) rfl rfl dX1_init_9 ?_
  refine qv_aload_n (pc := 12) g dX1_init_12 rfl rfl ?_
  refine qv_bipush (v := 9) (pc := 13) g dX1_init_13 (by decide) ?_
  refine qv_newL (pc := 15) (n := 9) (id := b + 2) g ac_long (by decide) (by decide) (by decide) (qv_ln hb rfl) (qv_cC hRm (by decide) (by decide)) dX1_init_15 (fun M2 => ?_)
  refine qv_T (T1 := (T0 ++ [(1, 6, [some (some (b + 1)), some none, none, some none, some none, some none]), (21, 9, []), (21, 9, [])])) (List.append_assoc _ _ _) ?_
  refine qv_putF (pc := 17) (T1 := (T0 ++ [(1, 6, [some (some (b + 1)), some (some (b + 2)), none, some none, some none, some none]), (21, 9, []), (21, 9, [])])) g pw_RX1_15 rfl hin (by decide) (qv_at hb (k := 0) rfl) (Nat.le_of_ble_eq_true rfl) rfl (qv_st hb 0 _) rfl rfl dX1_init_17 ?_
  refine qv_aload_n (pc := 20) g dX1_init_20 rfl rfl ?_
  refine qv_iconst (v := 0) (pc := 21) g dX1_init_21 (by decide) ?_
  refine qv_put1 (pc := 22) g pw_RX1_18 rfl rfl (by decide) (qv_at hb (k := 0) rfl) (Nat.le_of_ble_eq_true rfl) rfl dX1_init_22 (fun M3 => ?_)
  refine qv_aload_n (pc := 25) g dX1_init_25 rfl rfl ?_
  refine qv_new (pc := 26) (n := 2) (id := b + 3) g nw_RX1_22 rfl (qv_ln hb rfl) (qv_cC hRm (by decide) (by decide)) dX1_init_26 (fun M4 => ?_)
  refine qv_dup (pc := 29) g dX1_init_29 rfl ?_
  refine qv_ci (pc := 30) (T2 := (T0 ++ [(1, 6, [some (some (b + 1)), some (some (b + 2)), none, some none, some none, some none]), (21, 9, []), (21, 9, []), (7, 2, [some (some (b + 4)), none]), (21, 16, [])])) g (c_X7_init (gl G) X d (T0 ++ [(1, 6, [some (some (b + 1)), some (some (b + 2)), none, some none, some none, some none]), (21, 9, []), (21, 9, [])]) (b + 3) (qv_ln hb rfl) M4) (List.append_assoc _ _ _) (qv_RC hRm (by omega) (by decide)) (qv_cC hRm (by decide) (by decide)) mw_X7_init lk_RX1_24 im_X7_init rfl pd_X7_init (Nat.le_of_ble_eq_true rfl) dX1_init_30 (fun M5 => ?_)
  refine qv_putF (pc := 33) (T1 := (T0 ++ [(1, 6, [some (some (b + 1)), some (some (b + 2)), none, some (some (b + 3)), some none, some none]), (21, 9, []), (21, 9, []), (7, 2, [some (some (b + 4)), none]), (21, 16, [])])) g pw_RX1_25 rfl hin (by decide) (qv_at hb (k := 0) rfl) (Nat.le_of_ble_eq_true rfl) rfl (qv_st hb 0 _) rfl rfl dX1_init_33 ?_
  refine qv_aload_n (pc := 36) g dX1_init_36 rfl rfl ?_
  refine qv_new (pc := 37) (n := 2) (id := b + 5) g nw_RX1_22 rfl (qv_ln hb rfl) (qv_cC hRm (by decide) (by decide)) dX1_init_37 (fun M6 => ?_)
  refine qv_dup (pc := 40) g dX1_init_40 rfl ?_
  refine qv_ci (pc := 41) (T2 := (T0 ++ [(1, 6, [some (some (b + 1)), some (some (b + 2)), none, some (some (b + 3)), some none, some none]), (21, 9, []), (21, 9, []), (7, 2, [some (some (b + 4)), none]), (21, 16, []), (7, 2, [some (some (b + 6)), none]), (21, 16, [])])) g (c_X7_init (gl G) X d (T0 ++ [(1, 6, [some (some (b + 1)), some (some (b + 2)), none, some (some (b + 3)), some none, some none]), (21, 9, []), (21, 9, []), (7, 2, [some (some (b + 4)), none]), (21, 16, [])]) (b + 5) (qv_ln hb rfl) M6) (List.append_assoc _ _ _) (qv_RC hRm (by omega) (by decide)) (qv_cC hRm (by decide) (by decide)) mw_X7_init lk_RX1_24 im_X7_init rfl pd_X7_init (Nat.le_of_ble_eq_true rfl) dX1_init_41 (fun M7 => ?_)
  refine qv_putF (pc := 44) (T1 := (T0 ++ [(1, 6, [some (some (b + 1)), some (some (b + 2)), none, some (some (b + 3)), some (some (b + 5)), some none]), (21, 9, []), (21, 9, []), (7, 2, [some (some (b + 4)), none]), (21, 16, []), (7, 2, [some (some (b + 6)), none]), (21, 16, [])])) g pw_RX1_29 rfl hin (by decide) (qv_at hb (k := 0) rfl) (Nat.le_of_ble_eq_true rfl) rfl (qv_st hb 0 _) rfl rfl dX1_init_44 ?_
  refine qv_aload_n (pc := 47) g dX1_init_47 rfl rfl ?_
  refine qv_new (pc := 48) (n := 2) (id := b + 7) g nw_RX1_22 rfl (qv_ln hb rfl) (qv_cC hRm (by decide) (by decide)) dX1_init_48 (fun M8 => ?_)
  refine qv_dup (pc := 51) g dX1_init_51 rfl ?_
  refine qv_ci (pc := 52) (T2 := (T0 ++ [(1, 6, [some (some (b + 1)), some (some (b + 2)), none, some (some (b + 3)), some (some (b + 5)), some none]), (21, 9, []), (21, 9, []), (7, 2, [some (some (b + 4)), none]), (21, 16, []), (7, 2, [some (some (b + 6)), none]), (21, 16, []), (7, 2, [some (some (b + 8)), none]), (21, 16, [])])) g (c_X7_init (gl G) X d (T0 ++ [(1, 6, [some (some (b + 1)), some (some (b + 2)), none, some (some (b + 3)), some (some (b + 5)), some none]), (21, 9, []), (21, 9, []), (7, 2, [some (some (b + 4)), none]), (21, 16, []), (7, 2, [some (some (b + 6)), none]), (21, 16, [])]) (b + 7) (qv_ln hb rfl) M8) (List.append_assoc _ _ _) (qv_RC hRm (by omega) (by decide)) (qv_cC hRm (by decide) (by decide)) mw_X7_init lk_RX1_24 im_X7_init rfl pd_X7_init (Nat.le_of_ble_eq_true rfl) dX1_init_52 (fun M9 => ?_)
  refine qv_putF (pc := 55) (T1 := (T0 ++ [(1, 6, [some (some (b + 1)), some (some (b + 2)), none, some (some (b + 3)), some (some (b + 5)), some (some (b + 7))]), (21, 9, []), (21, 9, []), (7, 2, [some (some (b + 4)), none]), (21, 16, []), (7, 2, [some (some (b + 6)), none]), (21, 16, []), (7, 2, [some (some (b + 8)), none]), (21, 16, [])])) g pw_RX1_32 rfl hin (by decide) (qv_at hb (k := 0) rfl) (Nat.le_of_ble_eq_true rfl) rfl (qv_st hb 0 _) rfl rfl dX1_init_55 ?_
  exact qv_vret (pc := 58) g hr rfl dX1_init_58

def K_X4 (b : Nat) : List qv_Ent := [(4, 3, [some (some (b + 1)), some (some (b + 3)), some (some (b + 5))]), (7, 2, [some (some (b + 2)), none]), (21, 16, []), (7, 2, [some (some (b + 4)), none]), (21, 16, []), (1, 6, [some (some (b + 6)), some (some (b + 7)), none, some (some (b + 8)), some (some (b + 10)), some (some (b + 12))]), (21, 9, []), (21, 9, []), (7, 2, [some (some (b + 9)), none]), (21, 16, []), (7, 2, [some (some (b + 11)), none]), (21, 16, []), (7, 2, [some (some (b + 13)), none]), (21, 16, [])]
noncomputable def g_X4 (T0 : List qv_Ent) (b : Nat) (M : qv_Mem) : Option qv_Mem :=
 qv_al (b + 1) M (fun M1 =>
 qv_bo (g_X7 (T0 ++ [(4, 3, [some none, some none, some none])]) (b + 1) M1) (fun M2 =>
 qv_al (b + 3) M2 (fun M3 =>
 qv_bo (g_X7 (T0 ++ [(4, 3, [some (some (b + 1)), some none, some none]), (7, 2, [some (some (b + 2)), none]), (21, 16, [])]) (b + 3) M3) (fun M4 =>
 qv_al (b + 5) M4 (fun M5 =>
 qv_bo (g_X1 (T0 ++ [(4, 3, [some (some (b + 1)), some (some (b + 3)), some none]), (7, 2, [some (some (b + 2)), none]), (21, 16, []), (7, 2, [some (some (b + 4)), none]), (21, 16, [])]) (b + 5) M5) (fun M6 =>
 some M6))))))
set_option maxHeartbeats 4000000 in
set_option maxRecDepth 100000 in
theorem c_X4_init (l : Launch) (X : qv_X) (d : Nat) (T0 : List qv_Ent) (b : Nat) (hb : T0.length = b) (M : qv_Mem) : qv_OkC l X yX4_init cX4_init 1 (d + 4) 13 114 (T0 ++ [(4, 3, [some none, some none, some none])]) (T0 ++ K_X4 b) M [.ref (X.2.2.2 + b)] (g_X4 T0 b M) := by
  refine qv_mkC (lv := [(0, .ref (X.2.2.2 + b))]) (by decide) (Nat.le_of_ble_eq_true rfl) rfl rfl (fun G hG hRm g hr hin => ?_)
  have g : qv_ok G X cX4_init RX4 1 := g
  unfold g_X4
  refine qv_aload_n (pc := 0) g dX4_init_0 rfl rfl ?_
  refine qv_obj (pc := 1) g lk_RX4_3 im_obj cd_obj (Nat.le_of_ble_eq_true rfl) dX4_init_1 ?_
  refine qv_aload_n (pc := 4) g dX4_init_4 rfl rfl ?_
  refine qv_new (pc := 5) (n := 2) (id := b + 1) g nw_RX4_9 rfl (qv_ln hb rfl) (qv_cC hRm (by decide) (by decide)) dX4_init_5 (fun M1 => ?_)
  refine qv_dup (pc := 8) g dX4_init_8 rfl ?_
  refine qv_ci (pc := 9) (T2 := (T0 ++ [(4, 3, [some none, some none, some none]), (7, 2, [some (some (b + 2)), none]), (21, 16, [])])) g (c_X7_init (gl G) X (d + 1) (T0 ++ [(4, 3, [some none, some none, some none])]) (b + 1) (qv_ln hb rfl) M1) (List.append_assoc _ _ _) (qv_RC hRm (by omega) (by decide)) (qv_cC hRm (by decide) (by decide)) mw_X7_init lk_RX4_11 im_X7_init rfl pd_X7_init (Nat.le_of_ble_eq_true rfl) dX4_init_9 (fun M2 => ?_)
  refine qv_putF (pc := 12) (T1 := (T0 ++ [(4, 3, [some (some (b + 1)), some none, some none]), (7, 2, [some (some (b + 2)), none]), (21, 16, [])])) g pw_RX4_12 rfl hin (by decide) (qv_at hb (k := 0) rfl) (Nat.le_of_ble_eq_true rfl) rfl (qv_st hb 0 _) rfl rfl dX4_init_12 ?_
  refine qv_aload_n (pc := 15) g dX4_init_15 rfl rfl ?_
  refine qv_new (pc := 16) (n := 2) (id := b + 3) g nw_RX4_9 rfl (qv_ln hb rfl) (qv_cC hRm (by decide) (by decide)) dX4_init_16 (fun M3 => ?_)
  refine qv_dup (pc := 19) g dX4_init_19 rfl ?_
  refine qv_ci (pc := 20) (T2 := (T0 ++ [(4, 3, [some (some (b + 1)), some none, some none]), (7, 2, [some (some (b + 2)), none]), (21, 16, []), (7, 2, [some (some (b + 4)), none]), (21, 16, [])])) g (c_X7_init (gl G) X (d + 1) (T0 ++ [(4, 3, [some (some (b + 1)), some none, some none]), (7, 2, [some (some (b + 2)), none]), (21, 16, [])]) (b + 3) (qv_ln hb rfl) M3) (List.append_assoc _ _ _) (qv_RC hRm (by omega) (by decide)) (qv_cC hRm (by decide) (by decide)) mw_X7_init lk_RX4_11 im_X7_init rfl pd_X7_init (Nat.le_of_ble_eq_true rfl) dX4_init_20 (fun M4 => ?_)
  refine qv_putF (pc := 23) (T1 := (T0 ++ [(4, 3, [some (some (b + 1)), some (some (b + 3)), some none]), (7, 2, [some (some (b + 2)), none]), (21, 16, []), (7, 2, [some (some (b + 4)), none]), (21, 16, [])])) g pw_RX4_18 rfl hin (by decide) (qv_at hb (k := 0) rfl) (Nat.le_of_ble_eq_true rfl) rfl (qv_st hb 0 _) rfl rfl dX4_init_23 ?_
  refine qv_aload_n (pc := 26) g dX4_init_26 rfl rfl ?_
  refine qv_new (pc := 27) (n := 6) (id := b + 5) g nw_RX4_21 rfl (qv_ln hb rfl) (qv_cC hRm (by decide) (by decide)) dX4_init_27 (fun M5 => ?_)
  refine qv_dup (pc := 30) g dX4_init_30 rfl ?_
  refine qv_cin (pc := 31) (T2 := (T0 ++ [(4, 3, [some (some (b + 1)), some (some (b + 3)), some none]), (7, 2, [some (some (b + 2)), none]), (21, 16, []), (7, 2, [some (some (b + 4)), none]), (21, 16, []), (1, 6, [some (some (b + 6)), some (some (b + 7)), none, some (some (b + 8)), some (some (b + 10)), some (some (b + 12))]), (21, 9, []), (21, 9, []), (7, 2, [some (some (b + 9)), none]), (21, 16, []), (7, 2, [some (some (b + 11)), none]), (21, 16, []), (7, 2, [some (some (b + 13)), none]), (21, 16, [])])) g (c_X1_init (gl G) X d (T0 ++ [(4, 3, [some (some (b + 1)), some (some (b + 3)), some none]), (7, 2, [some (some (b + 2)), none]), (21, 16, []), (7, 2, [some (some (b + 4)), none]), (21, 16, [])]) (b + 5) (qv_ln hb rfl) M5) (List.append_assoc _ _ _) (qv_RC hRm (by omega) (by decide)) (qv_cC hRm (by decide) (by decide)) mw_X1_init ln_RX4_23 im_X1_init rfl pd_X1_init (Nat.le_of_ble_eq_true rfl) dX4_init_31 (fun M6 => ?_)
  refine qv_putF (pc := 34) (T1 := (T0 ++ [(4, 3, [some (some (b + 1)), some (some (b + 3)), some (some (b + 5))]), (7, 2, [some (some (b + 2)), none]), (21, 16, []), (7, 2, [some (some (b + 4)), none]), (21, 16, []), (1, 6, [some (some (b + 6)), some (some (b + 7)), none, some (some (b + 8)), some (some (b + 10)), some (some (b + 12))]), (21, 9, []), (21, 9, []), (7, 2, [some (some (b + 9)), none]), (21, 16, []), (7, 2, [some (some (b + 11)), none]), (21, 16, []), (7, 2, [some (some (b + 13)), none]), (21, 16, [])])) g pw_RX4_24 rfl hin (by decide) (qv_at hb (k := 0) rfl) (Nat.le_of_ble_eq_true rfl) rfl (qv_st hb 0 _) rfl rfl dX4_init_34 ?_
  exact qv_vret (pc := 37) g hr rfl dX4_init_37

def K_X9 (b : Nat) : List qv_Ent := ((9, 14, [some (some (b + 1)), some (some (b + 19)), none, some (some (b + 37)), some (some (b + 56)), some (some (b + 58)), some (some (b + 63)), some (some (b + 73)), some (some (b + 82)), some (some (b + 96)), some (some (b + 98)), some (some (b + 100)), some (some (b + 102)), some (some (b + 104))]) :: ((((((((((((([] ++ K_X0 (b + 1)) ++ K_X0 (b + 19)) ++ K_X3 (b + 37)) ++ K_X8 (b + 56)) ++ K_X5 (b + 58)) ++ K_X2 (b + 63)) ++ K_X1 (b + 73)) ++ K_X4 (b + 82)) ++ K_X6 (b + 96)) ++ K_X7 (b + 98)) ++ K_X7 (b + 100)) ++ K_X7 (b + 102)) ++ K_X7 (b + 104)))
noncomputable def g_X9 (T0 : List qv_Ent) (b : Nat) (M : qv_Mem) : Option qv_Mem :=
 qv_al (b + 1) M (fun M1 =>
 qv_bo (g_X0 (T0 ++ ((9, 14, [some none, some none, none, some none, some none, some none, some none, some none, some none, some none, some none, some none, some none, some none]) :: [])) (b + 1) M1) (fun M2 =>
 qv_al (b + 19) M2 (fun M3 =>
 qv_bo (g_X0 (T0 ++ ((9, 14, [some (some (b + 1)), some none, none, some none, some none, some none, some none, some none, some none, some none, some none, some none, some none, some none]) :: ([] ++ K_X0 (b + 1)))) (b + 19) M3) (fun M4 =>
 qv_pS (b) 2 0 M4 (fun M5 =>
 qv_al (b + 37) M5 (fun M6 =>
 qv_bo (g_X3 (T0 ++ ((9, 14, [some (some (b + 1)), some (some (b + 19)), none, some none, some none, some none, some none, some none, some none, some none, some none, some none, some none, some none]) :: (([] ++ K_X0 (b + 1)) ++ K_X0 (b + 19)))) (b + 37) M6) (fun M7 =>
 qv_al (b + 56) M7 (fun M8 =>
 qv_bo (g_X8 (T0 ++ ((9, 14, [some (some (b + 1)), some (some (b + 19)), none, some (some (b + 37)), some none, some none, some none, some none, some none, some none, some none, some none, some none, some none]) :: ((([] ++ K_X0 (b + 1)) ++ K_X0 (b + 19)) ++ K_X3 (b + 37)))) (b + 56) M8) (fun M9 =>
 qv_al (b + 58) M9 (fun M10 =>
 qv_bo (g_X5 (T0 ++ ((9, 14, [some (some (b + 1)), some (some (b + 19)), none, some (some (b + 37)), some (some (b + 56)), some none, some none, some none, some none, some none, some none, some none, some none, some none]) :: (((([] ++ K_X0 (b + 1)) ++ K_X0 (b + 19)) ++ K_X3 (b + 37)) ++ K_X8 (b + 56)))) (b + 58) M10) (fun M11 =>
 qv_al (b + 63) M11 (fun M12 =>
 qv_bo (g_X2 (T0 ++ ((9, 14, [some (some (b + 1)), some (some (b + 19)), none, some (some (b + 37)), some (some (b + 56)), some (some (b + 58)), some none, some none, some none, some none, some none, some none, some none, some none]) :: ((((([] ++ K_X0 (b + 1)) ++ K_X0 (b + 19)) ++ K_X3 (b + 37)) ++ K_X8 (b + 56)) ++ K_X5 (b + 58)))) (b + 63) M12) (fun M13 =>
 qv_al (b + 73) M13 (fun M14 =>
 qv_bo (g_X1 (T0 ++ ((9, 14, [some (some (b + 1)), some (some (b + 19)), none, some (some (b + 37)), some (some (b + 56)), some (some (b + 58)), some (some (b + 63)), some none, some none, some none, some none, some none, some none, some none]) :: (((((([] ++ K_X0 (b + 1)) ++ K_X0 (b + 19)) ++ K_X3 (b + 37)) ++ K_X8 (b + 56)) ++ K_X5 (b + 58)) ++ K_X2 (b + 63)))) (b + 73) M14) (fun M15 =>
 qv_al (b + 82) M15 (fun M16 =>
 qv_bo (g_X4 (T0 ++ ((9, 14, [some (some (b + 1)), some (some (b + 19)), none, some (some (b + 37)), some (some (b + 56)), some (some (b + 58)), some (some (b + 63)), some (some (b + 73)), some none, some none, some none, some none, some none, some none]) :: ((((((([] ++ K_X0 (b + 1)) ++ K_X0 (b + 19)) ++ K_X3 (b + 37)) ++ K_X8 (b + 56)) ++ K_X5 (b + 58)) ++ K_X2 (b + 63)) ++ K_X1 (b + 73)))) (b + 82) M16) (fun M17 =>
 qv_al (b + 96) M17 (fun M18 =>
 qv_bo (g_X6 (T0 ++ ((9, 14, [some (some (b + 1)), some (some (b + 19)), none, some (some (b + 37)), some (some (b + 56)), some (some (b + 58)), some (some (b + 63)), some (some (b + 73)), some (some (b + 82)), some none, some none, some none, some none, some none]) :: (((((((([] ++ K_X0 (b + 1)) ++ K_X0 (b + 19)) ++ K_X3 (b + 37)) ++ K_X8 (b + 56)) ++ K_X5 (b + 58)) ++ K_X2 (b + 63)) ++ K_X1 (b + 73)) ++ K_X4 (b + 82)))) (b + 96) M18) (fun M19 =>
 qv_al (b + 98) M19 (fun M20 =>
 qv_bo (g_X7 (T0 ++ ((9, 14, [some (some (b + 1)), some (some (b + 19)), none, some (some (b + 37)), some (some (b + 56)), some (some (b + 58)), some (some (b + 63)), some (some (b + 73)), some (some (b + 82)), some (some (b + 96)), some none, some none, some none, some none]) :: ((((((((([] ++ K_X0 (b + 1)) ++ K_X0 (b + 19)) ++ K_X3 (b + 37)) ++ K_X8 (b + 56)) ++ K_X5 (b + 58)) ++ K_X2 (b + 63)) ++ K_X1 (b + 73)) ++ K_X4 (b + 82)) ++ K_X6 (b + 96)))) (b + 98) M20) (fun M21 =>
 qv_al (b + 100) M21 (fun M22 =>
 qv_bo (g_X7 (T0 ++ ((9, 14, [some (some (b + 1)), some (some (b + 19)), none, some (some (b + 37)), some (some (b + 56)), some (some (b + 58)), some (some (b + 63)), some (some (b + 73)), some (some (b + 82)), some (some (b + 96)), some (some (b + 98)), some none, some none, some none]) :: (((((((((([] ++ K_X0 (b + 1)) ++ K_X0 (b + 19)) ++ K_X3 (b + 37)) ++ K_X8 (b + 56)) ++ K_X5 (b + 58)) ++ K_X2 (b + 63)) ++ K_X1 (b + 73)) ++ K_X4 (b + 82)) ++ K_X6 (b + 96)) ++ K_X7 (b + 98)))) (b + 100) M22) (fun M23 =>
 qv_al (b + 102) M23 (fun M24 =>
 qv_bo (g_X7 (T0 ++ ((9, 14, [some (some (b + 1)), some (some (b + 19)), none, some (some (b + 37)), some (some (b + 56)), some (some (b + 58)), some (some (b + 63)), some (some (b + 73)), some (some (b + 82)), some (some (b + 96)), some (some (b + 98)), some (some (b + 100)), some none, some none]) :: ((((((((((([] ++ K_X0 (b + 1)) ++ K_X0 (b + 19)) ++ K_X3 (b + 37)) ++ K_X8 (b + 56)) ++ K_X5 (b + 58)) ++ K_X2 (b + 63)) ++ K_X1 (b + 73)) ++ K_X4 (b + 82)) ++ K_X6 (b + 96)) ++ K_X7 (b + 98)) ++ K_X7 (b + 100)))) (b + 102) M24) (fun M25 =>
 qv_al (b + 104) M25 (fun M26 =>
 qv_bo (g_X7 (T0 ++ ((9, 14, [some (some (b + 1)), some (some (b + 19)), none, some (some (b + 37)), some (some (b + 56)), some (some (b + 58)), some (some (b + 63)), some (some (b + 73)), some (some (b + 82)), some (some (b + 96)), some (some (b + 98)), some (some (b + 100)), some (some (b + 102)), some none]) :: (((((((((((([] ++ K_X0 (b + 1)) ++ K_X0 (b + 19)) ++ K_X3 (b + 37)) ++ K_X8 (b + 56)) ++ K_X5 (b + 58)) ++ K_X2 (b + 63)) ++ K_X1 (b + 73)) ++ K_X4 (b + 82)) ++ K_X6 (b + 96)) ++ K_X7 (b + 98)) ++ K_X7 (b + 100)) ++ K_X7 (b + 102)))) (b + 104) M26) (fun M27 =>
 some M27)))))))))))))))))))))))))))
set_option maxHeartbeats 4000000 in
set_option maxRecDepth 100000 in
theorem c_X9_init (l : Launch) (X : qv_X) (d : Nat) (T0 : List qv_Ent) (b : Nat) (hb : T0.length = b) (M : qv_Mem) : qv_OkC l X yX9_init cX9_init 1 (d + 5) 105 5345 (T0 ++ [(9, 14, [some none, some none, none, some none, some none, some none, some none, some none, some none, some none, some none, some none, some none, some none])]) (T0 ++ K_X9 b) M [.ref (X.2.2.2 + b)] (g_X9 T0 b M) := by
  refine qv_mkC (lv := [(0, .ref (X.2.2.2 + b))]) (by decide) (Nat.le_of_ble_eq_true rfl) rfl rfl (fun G hG hRm g hr hin => ?_)
  have g : qv_ok G X cX9_init RX9 1 := g
  unfold g_X9
  refine qv_aload_n (pc := 0) g dX9_init_0 rfl rfl ?_
  refine qv_obj (pc := 1) g lk_RX9_3 im_obj cd_obj (Nat.le_of_ble_eq_true rfl) dX9_init_1 ?_
  refine qv_aload_n (pc := 4) g dX9_init_4 rfl rfl ?_
  refine qv_new (pc := 5) (n := 3) (id := b + 1) g nw_RX9_9 rfl (qv_ln hb rfl) (qv_cC hRm (by decide) (by decide)) dX9_init_5 (fun M1 => ?_)
  refine qv_dup (pc := 8) g dX9_init_8 rfl ?_
  refine qv_ci (pc := 9) (T2 := (T0 ++ ((9, 14, [some none, some none, none, some none, some none, some none, some none, some none, some none, some none, some none, some none, some none, some none]) :: ([] ++ K_X0 (b + 1))))) g (c_X0_init (gl G) X (d + 1) (T0 ++ ((9, 14, [some none, some none, none, some none, some none, some none, some none, some none, some none, some none, some none, some none, some none, some none]) :: [])) (b + 1) (qv_ln hb rfl) M1) (List.append_assoc _ _ _) (qv_RC hRm (by omega) (by decide)) (qv_cC hRm (by decide) (by decide)) mw_X0_init lk_RX9_11 im_X0_init rfl pd_X0_init (Nat.le_of_ble_eq_true rfl) dX9_init_9 (fun M2 => ?_)
  refine qv_putF (pc := 12) (T1 := (T0 ++ ((9, 14, [some (some (b + 1)), some none, none, some none, some none, some none, some none, some none, some none, some none, some none, some none, some none, some none]) :: ([] ++ K_X0 (b + 1))))) g pw_RX9_12 rfl hin (by decide) (qv_at hb (k := 0) rfl) (Nat.le_of_ble_eq_true rfl) rfl (qv_st hb 0 _) rfl rfl dX9_init_12 ?_
  refine qv_aload_n (pc := 15) g dX9_init_15 rfl rfl ?_
  refine qv_new (pc := 16) (n := 3) (id := b + 19) g nw_RX9_9 rfl (qv_ln hb rfl) (qv_cC hRm (by decide) (by decide)) dX9_init_16 (fun M3 => ?_)
  refine qv_dup (pc := 19) g dX9_init_19 rfl ?_
  refine qv_ci (pc := 20) (T2 := (T0 ++ ((9, 14, [some (some (b + 1)), some none, none, some none, some none, some none, some none, some none, some none, some none, some none, some none, some none, some none]) :: (([] ++ K_X0 (b + 1)) ++ K_X0 (b + 19))))) g (c_X0_init (gl G) X (d + 1) (T0 ++ ((9, 14, [some (some (b + 1)), some none, none, some none, some none, some none, some none, some none, some none, some none, some none, some none, some none, some none]) :: ([] ++ K_X0 (b + 1)))) (b + 19) (qv_ln hb rfl) M3) (List.append_assoc _ _ _) (qv_RC hRm (by omega) (by decide)) (qv_cC hRm (by decide) (by decide)) mw_X0_init lk_RX9_11 im_X0_init rfl pd_X0_init (Nat.le_of_ble_eq_true rfl) dX9_init_20 (fun M4 => ?_)
  refine qv_putF (pc := 23) (T1 := (T0 ++ ((9, 14, [some (some (b + 1)), some (some (b + 19)), none, some none, some none, some none, some none, some none, some none, some none, some none, some none, some none, some none]) :: (([] ++ K_X0 (b + 1)) ++ K_X0 (b + 19))))) g pw_RX9_18 rfl hin (by decide) (qv_at hb (k := 0) rfl) (Nat.le_of_ble_eq_true rfl) rfl (qv_st hb 0 _) rfl rfl dX9_init_23 ?_
  refine qv_aload_n (pc := 26) g dX9_init_26 rfl rfl ?_
  refine qv_iconst (v := 0) (pc := 27) g dX9_init_27 (by decide) ?_
  refine qv_put1 (pc := 28) g pw_RX9_21 rfl rfl (by decide) (qv_at hb (k := 0) rfl) (Nat.le_of_ble_eq_true rfl) rfl dX9_init_28 (fun M5 => ?_)
  refine qv_aload_n (pc := 31) g dX9_init_31 rfl rfl ?_
  refine qv_new (pc := 32) (n := 4) (id := b + 37) g nw_RX9_25 rfl (qv_ln hb rfl) (qv_cC hRm (by decide) (by decide)) dX9_init_32 (fun M6 => ?_)
  refine qv_dup (pc := 35) g dX9_init_35 rfl ?_
  refine qv_ci (pc := 36) (T2 := (T0 ++ ((9, 14, [some (some (b + 1)), some (some (b + 19)), none, some none, some none, some none, some none, some none, some none, some none, some none, some none, some none, some none]) :: ((([] ++ K_X0 (b + 1)) ++ K_X0 (b + 19)) ++ K_X3 (b + 37))))) g (c_X3_init (gl G) X (d + 3) (T0 ++ ((9, 14, [some (some (b + 1)), some (some (b + 19)), none, some none, some none, some none, some none, some none, some none, some none, some none, some none, some none, some none]) :: (([] ++ K_X0 (b + 1)) ++ K_X0 (b + 19)))) (b + 37) (qv_ln hb rfl) M6) (List.append_assoc _ _ _) (qv_RC hRm (by omega) (by decide)) (qv_cC hRm (by decide) (by decide)) mw_X3_init lk_RX9_27 im_X3_init rfl pd_X3_init (Nat.le_of_ble_eq_true rfl) dX9_init_36 (fun M7 => ?_)
  refine qv_putF (pc := 39) (T1 := (T0 ++ ((9, 14, [some (some (b + 1)), some (some (b + 19)), none, some (some (b + 37)), some none, some none, some none, some none, some none, some none, some none, some none, some none, some none]) :: ((([] ++ K_X0 (b + 1)) ++ K_X0 (b + 19)) ++ K_X3 (b + 37))))) g pw_RX9_28 rfl hin (by decide) (qv_at hb (k := 0) rfl) (Nat.le_of_ble_eq_true rfl) rfl (qv_st hb 0 _) rfl rfl dX9_init_39 ?_
  refine qv_aload_n (pc := 42) g dX9_init_42 rfl rfl ?_
  refine qv_new (pc := 43) (n := 2) (id := b + 56) g nw_RX9_32 rfl (qv_ln hb rfl) (qv_cC hRm (by decide) (by decide)) dX9_init_43 (fun M8 => ?_)
  refine qv_dup (pc := 46) g dX9_init_46 rfl ?_
  refine qv_cin (pc := 47) (T2 := (T0 ++ ((9, 14, [some (some (b + 1)), some (some (b + 19)), none, some (some (b + 37)), some none, some none, some none, some none, some none, some none, some none, some none, some none, some none]) :: (((([] ++ K_X0 (b + 1)) ++ K_X0 (b + 19)) ++ K_X3 (b + 37)) ++ K_X8 (b + 56))))) g (c_X8_init (gl G) X (d + 4) (T0 ++ ((9, 14, [some (some (b + 1)), some (some (b + 19)), none, some (some (b + 37)), some none, some none, some none, some none, some none, some none, some none, some none, some none, some none]) :: ((([] ++ K_X0 (b + 1)) ++ K_X0 (b + 19)) ++ K_X3 (b + 37)))) (b + 56) (qv_ln hb rfl) M8) (List.append_assoc _ _ _) (qv_RC hRm (by omega) (by decide)) (qv_cC hRm (by decide) (by decide)) mw_X8_init ln_RX9_34 im_X8_init rfl pd_X8_init (Nat.le_of_ble_eq_true rfl) dX9_init_47 (fun M9 => ?_)
  refine qv_putF (pc := 50) (T1 := (T0 ++ ((9, 14, [some (some (b + 1)), some (some (b + 19)), none, some (some (b + 37)), some (some (b + 56)), some none, some none, some none, some none, some none, some none, some none, some none, some none]) :: (((([] ++ K_X0 (b + 1)) ++ K_X0 (b + 19)) ++ K_X3 (b + 37)) ++ K_X8 (b + 56))))) g pw_RX9_35 rfl hin (by decide) (qv_at hb (k := 0) rfl) (Nat.le_of_ble_eq_true rfl) rfl (qv_st hb 0 _) rfl rfl dX9_init_50 ?_
  refine qv_aload_n (pc := 53) g dX9_init_53 rfl rfl ?_
  refine qv_new (pc := 54) (n := 7) (id := b + 58) g nw_RX9_39 rfl (qv_ln hb rfl) (qv_cC hRm (by decide) (by decide)) dX9_init_54 (fun M10 => ?_)
  refine qv_dup (pc := 57) g dX9_init_57 rfl ?_
  refine qv_cin (pc := 58) (T2 := (T0 ++ ((9, 14, [some (some (b + 1)), some (some (b + 19)), none, some (some (b + 37)), some (some (b + 56)), some none, some none, some none, some none, some none, some none, some none, some none, some none]) :: ((((([] ++ K_X0 (b + 1)) ++ K_X0 (b + 19)) ++ K_X3 (b + 37)) ++ K_X8 (b + 56)) ++ K_X5 (b + 58))))) g (c_X5_init (gl G) X (d + 4) (T0 ++ ((9, 14, [some (some (b + 1)), some (some (b + 19)), none, some (some (b + 37)), some (some (b + 56)), some none, some none, some none, some none, some none, some none, some none, some none, some none]) :: (((([] ++ K_X0 (b + 1)) ++ K_X0 (b + 19)) ++ K_X3 (b + 37)) ++ K_X8 (b + 56)))) (b + 58) (qv_ln hb rfl) M10) (List.append_assoc _ _ _) (qv_RC hRm (by omega) (by decide)) (qv_cC hRm (by decide) (by decide)) mw_X5_init ln_RX9_41 im_X5_init rfl pd_X5_init (Nat.le_of_ble_eq_true rfl) dX9_init_58 (fun M11 => ?_)
  refine qv_putF (pc := 61) (T1 := (T0 ++ ((9, 14, [some (some (b + 1)), some (some (b + 19)), none, some (some (b + 37)), some (some (b + 56)), some (some (b + 58)), some none, some none, some none, some none, some none, some none, some none, some none]) :: ((((([] ++ K_X0 (b + 1)) ++ K_X0 (b + 19)) ++ K_X3 (b + 37)) ++ K_X8 (b + 56)) ++ K_X5 (b + 58))))) g pw_RX9_42 rfl hin (by decide) (qv_at hb (k := 0) rfl) (Nat.le_of_ble_eq_true rfl) rfl (qv_st hb 0 _) rfl rfl dX9_init_61 ?_
  refine qv_aload_n (pc := 64) g dX9_init_64 rfl rfl ?_
  refine qv_new (pc := 65) (n := 10) (id := b + 63) g nw_RX9_46 rfl (qv_ln hb rfl) (qv_cC hRm (by decide) (by decide)) dX9_init_65 (fun M12 => ?_)
  refine qv_dup (pc := 68) g dX9_init_68 rfl ?_
  refine qv_cin (pc := 69) (T2 := (T0 ++ ((9, 14, [some (some (b + 1)), some (some (b + 19)), none, some (some (b + 37)), some (some (b + 56)), some (some (b + 58)), some none, some none, some none, some none, some none, some none, some none, some none]) :: (((((([] ++ K_X0 (b + 1)) ++ K_X0 (b + 19)) ++ K_X3 (b + 37)) ++ K_X8 (b + 56)) ++ K_X5 (b + 58)) ++ K_X2 (b + 63))))) g (c_X2_init (gl G) X (d + 1) (T0 ++ ((9, 14, [some (some (b + 1)), some (some (b + 19)), none, some (some (b + 37)), some (some (b + 56)), some (some (b + 58)), some none, some none, some none, some none, some none, some none, some none, some none]) :: ((((([] ++ K_X0 (b + 1)) ++ K_X0 (b + 19)) ++ K_X3 (b + 37)) ++ K_X8 (b + 56)) ++ K_X5 (b + 58)))) (b + 63) (qv_ln hb rfl) M12) (List.append_assoc _ _ _) (qv_RC hRm (by omega) (by decide)) (qv_cC hRm (by decide) (by decide)) mw_X2_init ln_RX9_48 im_X2_init rfl pd_X2_init (Nat.le_of_ble_eq_true rfl) dX9_init_69 (fun M13 => ?_)
  refine qv_putF (pc := 72) (T1 := (T0 ++ ((9, 14, [some (some (b + 1)), some (some (b + 19)), none, some (some (b + 37)), some (some (b + 56)), some (some (b + 58)), some (some (b + 63)), some none, some none, some none, some none, some none, some none, some none]) :: (((((([] ++ K_X0 (b + 1)) ++ K_X0 (b + 19)) ++ K_X3 (b + 37)) ++ K_X8 (b + 56)) ++ K_X5 (b + 58)) ++ K_X2 (b + 63))))) g pw_RX9_49 rfl hin (by decide) (qv_at hb (k := 0) rfl) (Nat.le_of_ble_eq_true rfl) rfl (qv_st hb 0 _) rfl rfl dX9_init_72 ?_
  refine qv_aload_n (pc := 75) g dX9_init_75 rfl rfl ?_
  refine qv_new (pc := 76) (n := 6) (id := b + 73) g nw_RX9_53 rfl (qv_ln hb rfl) (qv_cC hRm (by decide) (by decide)) dX9_init_76 (fun M14 => ?_)
  refine qv_dup (pc := 79) g dX9_init_79 rfl ?_
  refine qv_cin (pc := 80) (T2 := (T0 ++ ((9, 14, [some (some (b + 1)), some (some (b + 19)), none, some (some (b + 37)), some (some (b + 56)), some (some (b + 58)), some (some (b + 63)), some none, some none, some none, some none, some none, some none, some none]) :: ((((((([] ++ K_X0 (b + 1)) ++ K_X0 (b + 19)) ++ K_X3 (b + 37)) ++ K_X8 (b + 56)) ++ K_X5 (b + 58)) ++ K_X2 (b + 63)) ++ K_X1 (b + 73))))) g (c_X1_init (gl G) X (d + 1) (T0 ++ ((9, 14, [some (some (b + 1)), some (some (b + 19)), none, some (some (b + 37)), some (some (b + 56)), some (some (b + 58)), some (some (b + 63)), some none, some none, some none, some none, some none, some none, some none]) :: (((((([] ++ K_X0 (b + 1)) ++ K_X0 (b + 19)) ++ K_X3 (b + 37)) ++ K_X8 (b + 56)) ++ K_X5 (b + 58)) ++ K_X2 (b + 63)))) (b + 73) (qv_ln hb rfl) M14) (List.append_assoc _ _ _) (qv_RC hRm (by omega) (by decide)) (qv_cC hRm (by decide) (by decide)) mw_X1_init ln_RX9_55 im_X1_init rfl pd_X1_init (Nat.le_of_ble_eq_true rfl) dX9_init_80 (fun M15 => ?_)
  refine qv_putF (pc := 83) (T1 := (T0 ++ ((9, 14, [some (some (b + 1)), some (some (b + 19)), none, some (some (b + 37)), some (some (b + 56)), some (some (b + 58)), some (some (b + 63)), some (some (b + 73)), some none, some none, some none, some none, some none, some none]) :: ((((((([] ++ K_X0 (b + 1)) ++ K_X0 (b + 19)) ++ K_X3 (b + 37)) ++ K_X8 (b + 56)) ++ K_X5 (b + 58)) ++ K_X2 (b + 63)) ++ K_X1 (b + 73))))) g pw_RX9_56 rfl hin (by decide) (qv_at hb (k := 0) rfl) (Nat.le_of_ble_eq_true rfl) rfl (qv_st hb 0 _) rfl rfl dX9_init_83 ?_
  refine qv_aload_n (pc := 86) g dX9_init_86 rfl rfl ?_
  refine qv_new (pc := 87) (n := 3) (id := b + 82) g nw_RX9_60 rfl (qv_ln hb rfl) (qv_cC hRm (by decide) (by decide)) dX9_init_87 (fun M16 => ?_)
  refine qv_dup (pc := 90) g dX9_init_90 rfl ?_
  refine qv_cin (pc := 91) (T2 := (T0 ++ ((9, 14, [some (some (b + 1)), some (some (b + 19)), none, some (some (b + 37)), some (some (b + 56)), some (some (b + 58)), some (some (b + 63)), some (some (b + 73)), some none, some none, some none, some none, some none, some none]) :: (((((((([] ++ K_X0 (b + 1)) ++ K_X0 (b + 19)) ++ K_X3 (b + 37)) ++ K_X8 (b + 56)) ++ K_X5 (b + 58)) ++ K_X2 (b + 63)) ++ K_X1 (b + 73)) ++ K_X4 (b + 82))))) g (c_X4_init (gl G) X d (T0 ++ ((9, 14, [some (some (b + 1)), some (some (b + 19)), none, some (some (b + 37)), some (some (b + 56)), some (some (b + 58)), some (some (b + 63)), some (some (b + 73)), some none, some none, some none, some none, some none, some none]) :: ((((((([] ++ K_X0 (b + 1)) ++ K_X0 (b + 19)) ++ K_X3 (b + 37)) ++ K_X8 (b + 56)) ++ K_X5 (b + 58)) ++ K_X2 (b + 63)) ++ K_X1 (b + 73)))) (b + 82) (qv_ln hb rfl) M16) (List.append_assoc _ _ _) (qv_RC hRm (by omega) (by decide)) (qv_cC hRm (by decide) (by decide)) mw_X4_init ln_RX9_62 im_X4_init rfl pd_X4_init (Nat.le_of_ble_eq_true rfl) dX9_init_91 (fun M17 => ?_)
  refine qv_putF (pc := 94) (T1 := (T0 ++ ((9, 14, [some (some (b + 1)), some (some (b + 19)), none, some (some (b + 37)), some (some (b + 56)), some (some (b + 58)), some (some (b + 63)), some (some (b + 73)), some (some (b + 82)), some none, some none, some none, some none, some none]) :: (((((((([] ++ K_X0 (b + 1)) ++ K_X0 (b + 19)) ++ K_X3 (b + 37)) ++ K_X8 (b + 56)) ++ K_X5 (b + 58)) ++ K_X2 (b + 63)) ++ K_X1 (b + 73)) ++ K_X4 (b + 82))))) g pw_RX9_63 rfl hin (by decide) (qv_at hb (k := 0) rfl) (Nat.le_of_ble_eq_true rfl) rfl (qv_st hb 0 _) rfl rfl dX9_init_94 ?_
  refine qv_aload_n (pc := 97) g dX9_init_97 rfl rfl ?_
  refine qv_new (pc := 98) (n := 2) (id := b + 96) g nw_RX9_67 rfl (qv_ln hb rfl) (qv_cC hRm (by decide) (by decide)) dX9_init_98 (fun M18 => ?_)
  refine qv_dup (pc := 101) g dX9_init_101 rfl ?_
  refine qv_cin (pc := 102) (T2 := (T0 ++ ((9, 14, [some (some (b + 1)), some (some (b + 19)), none, some (some (b + 37)), some (some (b + 56)), some (some (b + 58)), some (some (b + 63)), some (some (b + 73)), some (some (b + 82)), some none, some none, some none, some none, some none]) :: ((((((((([] ++ K_X0 (b + 1)) ++ K_X0 (b + 19)) ++ K_X3 (b + 37)) ++ K_X8 (b + 56)) ++ K_X5 (b + 58)) ++ K_X2 (b + 63)) ++ K_X1 (b + 73)) ++ K_X4 (b + 82)) ++ K_X6 (b + 96))))) g (c_X6_init (gl G) X (d + 4) (T0 ++ ((9, 14, [some (some (b + 1)), some (some (b + 19)), none, some (some (b + 37)), some (some (b + 56)), some (some (b + 58)), some (some (b + 63)), some (some (b + 73)), some (some (b + 82)), some none, some none, some none, some none, some none]) :: (((((((([] ++ K_X0 (b + 1)) ++ K_X0 (b + 19)) ++ K_X3 (b + 37)) ++ K_X8 (b + 56)) ++ K_X5 (b + 58)) ++ K_X2 (b + 63)) ++ K_X1 (b + 73)) ++ K_X4 (b + 82)))) (b + 96) (qv_ln hb rfl) M18) (List.append_assoc _ _ _) (qv_RC hRm (by omega) (by decide)) (qv_cC hRm (by decide) (by decide)) mw_X6_init ln_RX9_69 im_X6_init rfl pd_X6_init (Nat.le_of_ble_eq_true rfl) dX9_init_102 (fun M19 => ?_)
  refine qv_putF (pc := 105) (T1 := (T0 ++ ((9, 14, [some (some (b + 1)), some (some (b + 19)), none, some (some (b + 37)), some (some (b + 56)), some (some (b + 58)), some (some (b + 63)), some (some (b + 73)), some (some (b + 82)), some (some (b + 96)), some none, some none, some none, some none]) :: ((((((((([] ++ K_X0 (b + 1)) ++ K_X0 (b + 19)) ++ K_X3 (b + 37)) ++ K_X8 (b + 56)) ++ K_X5 (b + 58)) ++ K_X2 (b + 63)) ++ K_X1 (b + 73)) ++ K_X4 (b + 82)) ++ K_X6 (b + 96))))) g pw_RX9_70 rfl hin (by decide) (qv_at hb (k := 0) rfl) (Nat.le_of_ble_eq_true rfl) rfl (qv_st hb 0 _) rfl rfl dX9_init_105 ?_
  refine qv_aload_n (pc := 108) g dX9_init_108 rfl rfl ?_
  refine qv_new (pc := 109) (n := 2) (id := b + 98) g nw_RX9_74 rfl (qv_ln hb rfl) (qv_cC hRm (by decide) (by decide)) dX9_init_109 (fun M20 => ?_)
  refine qv_dup (pc := 112) g dX9_init_112 rfl ?_
  refine qv_ci (pc := 113) (T2 := (T0 ++ ((9, 14, [some (some (b + 1)), some (some (b + 19)), none, some (some (b + 37)), some (some (b + 56)), some (some (b + 58)), some (some (b + 63)), some (some (b + 73)), some (some (b + 82)), some (some (b + 96)), some none, some none, some none, some none]) :: (((((((((([] ++ K_X0 (b + 1)) ++ K_X0 (b + 19)) ++ K_X3 (b + 37)) ++ K_X8 (b + 56)) ++ K_X5 (b + 58)) ++ K_X2 (b + 63)) ++ K_X1 (b + 73)) ++ K_X4 (b + 82)) ++ K_X6 (b + 96)) ++ K_X7 (b + 98))))) g (c_X7_init (gl G) X (d + 2) (T0 ++ ((9, 14, [some (some (b + 1)), some (some (b + 19)), none, some (some (b + 37)), some (some (b + 56)), some (some (b + 58)), some (some (b + 63)), some (some (b + 73)), some (some (b + 82)), some (some (b + 96)), some none, some none, some none, some none]) :: ((((((((([] ++ K_X0 (b + 1)) ++ K_X0 (b + 19)) ++ K_X3 (b + 37)) ++ K_X8 (b + 56)) ++ K_X5 (b + 58)) ++ K_X2 (b + 63)) ++ K_X1 (b + 73)) ++ K_X4 (b + 82)) ++ K_X6 (b + 96)))) (b + 98) (qv_ln hb rfl) M20) (List.append_assoc _ _ _) (qv_RC hRm (by omega) (by decide)) (qv_cC hRm (by decide) (by decide)) mw_X7_init lk_RX9_76 im_X7_init rfl pd_X7_init (Nat.le_of_ble_eq_true rfl) dX9_init_113 (fun M21 => ?_)
  refine qv_putF (pc := 116) (T1 := (T0 ++ ((9, 14, [some (some (b + 1)), some (some (b + 19)), none, some (some (b + 37)), some (some (b + 56)), some (some (b + 58)), some (some (b + 63)), some (some (b + 73)), some (some (b + 82)), some (some (b + 96)), some (some (b + 98)), some none, some none, some none]) :: (((((((((([] ++ K_X0 (b + 1)) ++ K_X0 (b + 19)) ++ K_X3 (b + 37)) ++ K_X8 (b + 56)) ++ K_X5 (b + 58)) ++ K_X2 (b + 63)) ++ K_X1 (b + 73)) ++ K_X4 (b + 82)) ++ K_X6 (b + 96)) ++ K_X7 (b + 98))))) g pw_RX9_77 rfl hin (by decide) (qv_at hb (k := 0) rfl) (Nat.le_of_ble_eq_true rfl) rfl (qv_st hb 0 _) rfl rfl dX9_init_116 ?_
  refine qv_aload_n (pc := 119) g dX9_init_119 rfl rfl ?_
  refine qv_new (pc := 120) (n := 2) (id := b + 100) g nw_RX9_74 rfl (qv_ln hb rfl) (qv_cC hRm (by decide) (by decide)) dX9_init_120 (fun M22 => ?_)
  refine qv_dup (pc := 123) g dX9_init_123 rfl ?_
  refine qv_ci (pc := 124) (T2 := (T0 ++ ((9, 14, [some (some (b + 1)), some (some (b + 19)), none, some (some (b + 37)), some (some (b + 56)), some (some (b + 58)), some (some (b + 63)), some (some (b + 73)), some (some (b + 82)), some (some (b + 96)), some (some (b + 98)), some none, some none, some none]) :: ((((((((((([] ++ K_X0 (b + 1)) ++ K_X0 (b + 19)) ++ K_X3 (b + 37)) ++ K_X8 (b + 56)) ++ K_X5 (b + 58)) ++ K_X2 (b + 63)) ++ K_X1 (b + 73)) ++ K_X4 (b + 82)) ++ K_X6 (b + 96)) ++ K_X7 (b + 98)) ++ K_X7 (b + 100))))) g (c_X7_init (gl G) X (d + 2) (T0 ++ ((9, 14, [some (some (b + 1)), some (some (b + 19)), none, some (some (b + 37)), some (some (b + 56)), some (some (b + 58)), some (some (b + 63)), some (some (b + 73)), some (some (b + 82)), some (some (b + 96)), some (some (b + 98)), some none, some none, some none]) :: (((((((((([] ++ K_X0 (b + 1)) ++ K_X0 (b + 19)) ++ K_X3 (b + 37)) ++ K_X8 (b + 56)) ++ K_X5 (b + 58)) ++ K_X2 (b + 63)) ++ K_X1 (b + 73)) ++ K_X4 (b + 82)) ++ K_X6 (b + 96)) ++ K_X7 (b + 98)))) (b + 100) (qv_ln hb rfl) M22) (List.append_assoc _ _ _) (qv_RC hRm (by omega) (by decide)) (qv_cC hRm (by decide) (by decide)) mw_X7_init lk_RX9_76 im_X7_init rfl pd_X7_init (Nat.le_of_ble_eq_true rfl) dX9_init_124 (fun M23 => ?_)
  refine qv_putF (pc := 127) (T1 := (T0 ++ ((9, 14, [some (some (b + 1)), some (some (b + 19)), none, some (some (b + 37)), some (some (b + 56)), some (some (b + 58)), some (some (b + 63)), some (some (b + 73)), some (some (b + 82)), some (some (b + 96)), some (some (b + 98)), some (some (b + 100)), some none, some none]) :: ((((((((((([] ++ K_X0 (b + 1)) ++ K_X0 (b + 19)) ++ K_X3 (b + 37)) ++ K_X8 (b + 56)) ++ K_X5 (b + 58)) ++ K_X2 (b + 63)) ++ K_X1 (b + 73)) ++ K_X4 (b + 82)) ++ K_X6 (b + 96)) ++ K_X7 (b + 98)) ++ K_X7 (b + 100))))) g pw_RX9_81 rfl hin (by decide) (qv_at hb (k := 0) rfl) (Nat.le_of_ble_eq_true rfl) rfl (qv_st hb 0 _) rfl rfl dX9_init_127 ?_
  refine qv_aload_n (pc := 130) g dX9_init_130 rfl rfl ?_
  refine qv_new (pc := 131) (n := 2) (id := b + 102) g nw_RX9_74 rfl (qv_ln hb rfl) (qv_cC hRm (by decide) (by decide)) dX9_init_131 (fun M24 => ?_)
  refine qv_dup (pc := 134) g dX9_init_134 rfl ?_
  refine qv_ci (pc := 135) (T2 := (T0 ++ ((9, 14, [some (some (b + 1)), some (some (b + 19)), none, some (some (b + 37)), some (some (b + 56)), some (some (b + 58)), some (some (b + 63)), some (some (b + 73)), some (some (b + 82)), some (some (b + 96)), some (some (b + 98)), some (some (b + 100)), some none, some none]) :: (((((((((((([] ++ K_X0 (b + 1)) ++ K_X0 (b + 19)) ++ K_X3 (b + 37)) ++ K_X8 (b + 56)) ++ K_X5 (b + 58)) ++ K_X2 (b + 63)) ++ K_X1 (b + 73)) ++ K_X4 (b + 82)) ++ K_X6 (b + 96)) ++ K_X7 (b + 98)) ++ K_X7 (b + 100)) ++ K_X7 (b + 102))))) g (c_X7_init (gl G) X (d + 2) (T0 ++ ((9, 14, [some (some (b + 1)), some (some (b + 19)), none, some (some (b + 37)), some (some (b + 56)), some (some (b + 58)), some (some (b + 63)), some (some (b + 73)), some (some (b + 82)), some (some (b + 96)), some (some (b + 98)), some (some (b + 100)), some none, some none]) :: ((((((((((([] ++ K_X0 (b + 1)) ++ K_X0 (b + 19)) ++ K_X3 (b + 37)) ++ K_X8 (b + 56)) ++ K_X5 (b + 58)) ++ K_X2 (b + 63)) ++ K_X1 (b + 73)) ++ K_X4 (b + 82)) ++ K_X6 (b + 96)) ++ K_X7 (b + 98)) ++ K_X7 (b + 100)))) (b + 102) (qv_ln hb rfl) M24) (List.append_assoc _ _ _) (qv_RC hRm (by omega) (by decide)) (qv_cC hRm (by decide) (by decide)) mw_X7_init lk_RX9_76 im_X7_init rfl pd_X7_init (Nat.le_of_ble_eq_true rfl) dX9_init_135 (fun M25 => ?_)
  refine qv_putF (pc := 138) (T1 := (T0 ++ ((9, 14, [some (some (b + 1)), some (some (b + 19)), none, some (some (b + 37)), some (some (b + 56)), some (some (b + 58)), some (some (b + 63)), some (some (b + 73)), some (some (b + 82)), some (some (b + 96)), some (some (b + 98)), some (some (b + 100)), some (some (b + 102)), some none]) :: (((((((((((([] ++ K_X0 (b + 1)) ++ K_X0 (b + 19)) ++ K_X3 (b + 37)) ++ K_X8 (b + 56)) ++ K_X5 (b + 58)) ++ K_X2 (b + 63)) ++ K_X1 (b + 73)) ++ K_X4 (b + 82)) ++ K_X6 (b + 96)) ++ K_X7 (b + 98)) ++ K_X7 (b + 100)) ++ K_X7 (b + 102))))) g pw_RX9_84 rfl hin (by decide) (qv_at hb (k := 0) rfl) (Nat.le_of_ble_eq_true rfl) rfl (qv_st hb 0 _) rfl rfl dX9_init_138 ?_
  refine qv_aload_n (pc := 141) g dX9_init_141 rfl rfl ?_
  refine qv_new (pc := 142) (n := 2) (id := b + 104) g nw_RX9_74 rfl (qv_ln hb rfl) (qv_cC hRm (by decide) (by decide)) dX9_init_142 (fun M26 => ?_)
  refine qv_dup (pc := 145) g dX9_init_145 rfl ?_
  refine qv_ci (pc := 146) (T2 := (T0 ++ ((9, 14, [some (some (b + 1)), some (some (b + 19)), none, some (some (b + 37)), some (some (b + 56)), some (some (b + 58)), some (some (b + 63)), some (some (b + 73)), some (some (b + 82)), some (some (b + 96)), some (some (b + 98)), some (some (b + 100)), some (some (b + 102)), some none]) :: ((((((((((((([] ++ K_X0 (b + 1)) ++ K_X0 (b + 19)) ++ K_X3 (b + 37)) ++ K_X8 (b + 56)) ++ K_X5 (b + 58)) ++ K_X2 (b + 63)) ++ K_X1 (b + 73)) ++ K_X4 (b + 82)) ++ K_X6 (b + 96)) ++ K_X7 (b + 98)) ++ K_X7 (b + 100)) ++ K_X7 (b + 102)) ++ K_X7 (b + 104))))) g (c_X7_init (gl G) X (d + 2) (T0 ++ ((9, 14, [some (some (b + 1)), some (some (b + 19)), none, some (some (b + 37)), some (some (b + 56)), some (some (b + 58)), some (some (b + 63)), some (some (b + 73)), some (some (b + 82)), some (some (b + 96)), some (some (b + 98)), some (some (b + 100)), some (some (b + 102)), some none]) :: (((((((((((([] ++ K_X0 (b + 1)) ++ K_X0 (b + 19)) ++ K_X3 (b + 37)) ++ K_X8 (b + 56)) ++ K_X5 (b + 58)) ++ K_X2 (b + 63)) ++ K_X1 (b + 73)) ++ K_X4 (b + 82)) ++ K_X6 (b + 96)) ++ K_X7 (b + 98)) ++ K_X7 (b + 100)) ++ K_X7 (b + 102)))) (b + 104) (qv_ln hb rfl) M26) (List.append_assoc _ _ _) (qv_RC hRm (by omega) (by decide)) (qv_cC hRm (by decide) (by decide)) mw_X7_init lk_RX9_76 im_X7_init rfl pd_X7_init (Nat.le_of_ble_eq_true rfl) dX9_init_146 (fun M27 => ?_)
  refine qv_putF (pc := 149) (T1 := (T0 ++ ((9, 14, [some (some (b + 1)), some (some (b + 19)), none, some (some (b + 37)), some (some (b + 56)), some (some (b + 58)), some (some (b + 63)), some (some (b + 73)), some (some (b + 82)), some (some (b + 96)), some (some (b + 98)), some (some (b + 100)), some (some (b + 102)), some (some (b + 104))]) :: ((((((((((((([] ++ K_X0 (b + 1)) ++ K_X0 (b + 19)) ++ K_X3 (b + 37)) ++ K_X8 (b + 56)) ++ K_X5 (b + 58)) ++ K_X2 (b + 63)) ++ K_X1 (b + 73)) ++ K_X4 (b + 82)) ++ K_X6 (b + 96)) ++ K_X7 (b + 98)) ++ K_X7 (b + 100)) ++ K_X7 (b + 102)) ++ K_X7 (b + 104))))) g pw_RX9_87 rfl hin (by decide) (qv_at hb (k := 0) rfl) (Nat.le_of_ble_eq_true rfl) rfl (qv_st hb 0 _) rfl rfl dX9_init_149 ?_
  exact qv_vret (pc := 152) g hr rfl dX9_init_152

def K_X10 (b : Nat) : List qv_Ent := [(10, 29, [some (some (b + 1)), some (some (b + 2)), some (some (b + 3)), some (some (b + 4)), some (some (b + 5)), some (some (b + 6)), some (some (b + 7)), some (some (b + 8)), some (some (b + 9)), none, some (some (b + 10)), some (some (b + 11)), some (some (b + 12)), some (some (b + 13)), none, some (some (b + 14)), some (some (b + 15)), some (some (b + 16)), none, some (some (b + 17)), some (some (b + 18)), some (some (b + 19)), none, some (some (b + 20)), none, none, none, none, some (some (b + 21))]), (21, 340, []), (21, 3264, []), (21, 68, []), (20, 7, []), (20, 7, []), (20, 180, []), (20, 3, []), (20, 180, []), (20, 3, []), (21, 9, []), (21, 9, []), (20, 1344, []), (20, 1344, []), (20, 192, []), (20, 192, []), (20, 600, []), (20, 480, []), (20, 8, []), (20, 8, []), (20, 80, []), (20, 120, [])]
noncomputable def g_X10 (T0 : List qv_Ent) (b : Nat) (M : qv_Mem) : Option qv_Mem :=
 qv_al (b + 1) M (fun M1 =>
 qv_al (b + 2) M1 (fun M2 =>
 qv_al (b + 3) M2 (fun M3 =>
 qv_al (b + 4) M3 (fun M4 =>
 qv_al (b + 5) M4 (fun M5 =>
 qv_al (b + 6) M5 (fun M6 =>
 qv_al (b + 7) M6 (fun M7 =>
 qv_al (b + 8) M7 (fun M8 =>
 qv_al (b + 9) M8 (fun M9 =>
 qv_al (b + 10) M9 (fun M10 =>
 qv_al (b + 11) M10 (fun M11 =>
 qv_al (b + 12) M11 (fun M12 =>
 qv_al (b + 13) M12 (fun M13 =>
 qv_al (b + 14) M13 (fun M14 =>
 qv_al (b + 15) M14 (fun M15 =>
 qv_al (b + 16) M15 (fun M16 =>
 qv_al (b + 17) M16 (fun M17 =>
 qv_al (b + 18) M17 (fun M18 =>
 qv_al (b + 19) M18 (fun M19 =>
 qv_al (b + 20) M19 (fun M20 =>
 qv_al (b + 21) M20 (fun M21 =>
 qv_stI 7 (b + 4) 0 1 M21 (fun M22 =>
 qv_stI 7 (b + 4) 1 1 M22 (fun M23 =>
 qv_stI 7 (b + 4) 2 1 M23 (fun M24 =>
 qv_stI 7 (b + 4) 3 1 M24 (fun M25 =>
 qv_stI 7 (b + 4) 4 1 M25 (fun M26 =>
 qv_stI 7 (b + 4) 5 1 M26 (fun M27 =>
 qv_stI 7 (b + 4) 6 1 M27 (fun M28 =>
 qv_bo (f_X10_number (T0 ++ [(10, 29, [some (some (b + 1)), some (some (b + 2)), some (some (b + 3)), some (some (b + 4)), some (some (b + 5)), some (some (b + 6)), some (some (b + 7)), some (some (b + 8)), some (some (b + 9)), none, some (some (b + 10)), some (some (b + 11)), some (some (b + 12)), some (some (b + 13)), none, some (some (b + 14)), some (some (b + 15)), some (some (b + 16)), none, some (some (b + 17)), some (some (b + 18)), some (some (b + 19)), none, some (some (b + 20)), none, none, none, none, some (some (b + 21))]), (21, 340, []), (21, 3264, []), (21, 68, []), (20, 7, []), (20, 7, []), (20, 180, []), (20, 3, []), (20, 180, []), (20, 3, []), (21, 9, []), (21, 9, []), (20, 1344, []), (20, 1344, []), (20, 192, []), (20, 192, []), (20, 600, []), (20, 480, []), (20, 8, []), (20, 8, []), (20, 80, []), (20, 120, [])]) b 14 0 0 1 M28) (fun M29 =>
 qv_bo (f_X10_number (T0 ++ [(10, 29, [some (some (b + 1)), some (some (b + 2)), some (some (b + 3)), some (some (b + 4)), some (some (b + 5)), some (some (b + 6)), some (some (b + 7)), some (some (b + 8)), some (some (b + 9)), none, some (some (b + 10)), some (some (b + 11)), some (some (b + 12)), some (some (b + 13)), none, some (some (b + 14)), some (some (b + 15)), some (some (b + 16)), none, some (some (b + 17)), some (some (b + 18)), some (some (b + 19)), none, some (some (b + 20)), none, none, none, none, some (some (b + 21))]), (21, 340, []), (21, 3264, []), (21, 68, []), (20, 7, []), (20, 7, []), (20, 180, []), (20, 3, []), (20, 180, []), (20, 3, []), (21, 9, []), (21, 9, []), (20, 1344, []), (20, 1344, []), (20, 192, []), (20, 192, []), (20, 600, []), (20, 480, []), (20, 8, []), (20, 8, []), (20, 80, []), (20, 120, [])]) b 14 3 0 1 M29) (fun M30 =>
 qv_bo (f_X10_gates (T0 ++ [(10, 29, [some (some (b + 1)), some (some (b + 2)), some (some (b + 3)), some (some (b + 4)), some (some (b + 5)), some (some (b + 6)), some (some (b + 7)), some (some (b + 8)), some (some (b + 9)), none, some (some (b + 10)), some (some (b + 11)), some (some (b + 12)), some (some (b + 13)), none, some (some (b + 14)), some (some (b + 15)), some (some (b + 16)), none, some (some (b + 17)), some (some (b + 18)), some (some (b + 19)), none, some (some (b + 20)), none, none, none, none, some (some (b + 21))]), (21, 340, []), (21, 3264, []), (21, 68, []), (20, 7, []), (20, 7, []), (20, 180, []), (20, 3, []), (20, 180, []), (20, 3, []), (21, 9, []), (21, 9, []), (20, 1344, []), (20, 1344, []), (20, 192, []), (20, 192, []), (20, 600, []), (20, 480, []), (20, 8, []), (20, 8, []), (20, 80, []), (20, 120, [])]) b M30) (fun M31 =>
 qv_bo (f_X10_copies (T0 ++ [(10, 29, [some (some (b + 1)), some (some (b + 2)), some (some (b + 3)), some (some (b + 4)), some (some (b + 5)), some (some (b + 6)), some (some (b + 7)), some (some (b + 8)), some (some (b + 9)), none, some (some (b + 10)), some (some (b + 11)), some (some (b + 12)), some (some (b + 13)), none, some (some (b + 14)), some (some (b + 15)), some (some (b + 16)), none, some (some (b + 17)), some (some (b + 18)), some (some (b + 19)), none, some (some (b + 20)), none, none, none, none, some (some (b + 21))]), (21, 340, []), (21, 3264, []), (21, 68, []), (20, 7, []), (20, 7, []), (20, 180, []), (20, 3, []), (20, 180, []), (20, 3, []), (21, 9, []), (21, 9, []), (20, 1344, []), (20, 1344, []), (20, 192, []), (20, 192, []), (20, 600, []), (20, 480, []), (20, 8, []), (20, 8, []), (20, 80, []), (20, 120, [])]) b 14 0 M31) (fun M32 =>
 qv_bo (f_X10_copies (T0 ++ [(10, 29, [some (some (b + 1)), some (some (b + 2)), some (some (b + 3)), some (some (b + 4)), some (some (b + 5)), some (some (b + 6)), some (some (b + 7)), some (some (b + 8)), some (some (b + 9)), none, some (some (b + 10)), some (some (b + 11)), some (some (b + 12)), some (some (b + 13)), none, some (some (b + 14)), some (some (b + 15)), some (some (b + 16)), none, some (some (b + 17)), some (some (b + 18)), some (some (b + 19)), none, some (some (b + 20)), none, none, none, none, some (some (b + 21))]), (21, 340, []), (21, 3264, []), (21, 68, []), (20, 7, []), (20, 7, []), (20, 180, []), (20, 3, []), (20, 180, []), (20, 3, []), (21, 9, []), (21, 9, []), (20, 1344, []), (20, 1344, []), (20, 192, []), (20, 192, []), (20, 600, []), (20, 480, []), (20, 8, []), (20, 8, []), (20, 80, []), (20, 120, [])]) b 14 1 M32) (fun M33 =>
 qv_bo (f_X10_copies (T0 ++ [(10, 29, [some (some (b + 1)), some (some (b + 2)), some (some (b + 3)), some (some (b + 4)), some (some (b + 5)), some (some (b + 6)), some (some (b + 7)), some (some (b + 8)), some (some (b + 9)), none, some (some (b + 10)), some (some (b + 11)), some (some (b + 12)), some (some (b + 13)), none, some (some (b + 14)), some (some (b + 15)), some (some (b + 16)), none, some (some (b + 17)), some (some (b + 18)), some (some (b + 19)), none, some (some (b + 20)), none, none, none, none, some (some (b + 21))]), (21, 340, []), (21, 3264, []), (21, 68, []), (20, 7, []), (20, 7, []), (20, 180, []), (20, 3, []), (20, 180, []), (20, 3, []), (21, 9, []), (21, 9, []), (20, 1344, []), (20, 1344, []), (20, 192, []), (20, 192, []), (20, 600, []), (20, 480, []), (20, 8, []), (20, 8, []), (20, 80, []), (20, 120, [])]) b 14 2 M33) (fun M34 =>
 qv_bo (f_X10_copies (T0 ++ [(10, 29, [some (some (b + 1)), some (some (b + 2)), some (some (b + 3)), some (some (b + 4)), some (some (b + 5)), some (some (b + 6)), some (some (b + 7)), some (some (b + 8)), some (some (b + 9)), none, some (some (b + 10)), some (some (b + 11)), some (some (b + 12)), some (some (b + 13)), none, some (some (b + 14)), some (some (b + 15)), some (some (b + 16)), none, some (some (b + 17)), some (some (b + 18)), some (some (b + 19)), none, some (some (b + 20)), none, none, none, none, some (some (b + 21))]), (21, 340, []), (21, 3264, []), (21, 68, []), (20, 7, []), (20, 7, []), (20, 180, []), (20, 3, []), (20, 180, []), (20, 3, []), (21, 9, []), (21, 9, []), (20, 1344, []), (20, 1344, []), (20, 192, []), (20, 192, []), (20, 600, []), (20, 480, []), (20, 8, []), (20, 8, []), (20, 80, []), (20, 120, [])]) b 14 3 M34) (fun M35 =>
 qv_bo (f_X10_walks (T0 ++ [(10, 29, [some (some (b + 1)), some (some (b + 2)), some (some (b + 3)), some (some (b + 4)), some (some (b + 5)), some (some (b + 6)), some (some (b + 7)), some (some (b + 8)), some (some (b + 9)), none, some (some (b + 10)), some (some (b + 11)), some (some (b + 12)), some (some (b + 13)), none, some (some (b + 14)), some (some (b + 15)), some (some (b + 16)), none, some (some (b + 17)), some (some (b + 18)), some (some (b + 19)), none, some (some (b + 20)), none, none, none, none, some (some (b + 21))]), (21, 340, []), (21, 3264, []), (21, 68, []), (20, 7, []), (20, 7, []), (20, 180, []), (20, 3, []), (20, 180, []), (20, 3, []), (21, 9, []), (21, 9, []), (20, 1344, []), (20, 1344, []), (20, 192, []), (20, 192, []), (20, 600, []), (20, 480, []), (20, 8, []), (20, 8, []), (20, 80, []), (20, 120, [])]) b M35) (fun M36 =>
 some M36))))))))))))))))))))))))))))))))))))
set_option maxHeartbeats 4000000 in
set_option maxRecDepth 100000 in
theorem c_X10_init (l : Launch) (X : qv_X) (d : Nat) (T0 : List qv_Ent) (b : Nat) (hb : T0.length = b) (M : qv_Mem) : qv_OkC l X yX10_init cX10_init 2 (d + 5) 21 8438 (T0 ++ [(10, 29, [some none, some none, some none, some none, some none, some none, some none, some none, some none, none, some none, some none, some none, some none, none, some none, some none, some none, none, some none, some none, some none, none, some none, none, none, none, none, some none])]) (T0 ++ K_X10 b) M [.ref (X.2.2.2 + b)] (g_X10 T0 b M) := by
  refine qv_mkC (lv := [(0, .ref (X.2.2.2 + b))]) (by decide) (Nat.le_of_ble_eq_true rfl) rfl rfl (fun G hG hRm g hr hin => ?_)
  have g : qv_ok G X cX10_init RX10 2 := g
  unfold g_X10
  refine qv_aload_n (pc := 0) g dX10_init_0 rfl rfl ?_
  refine qv_obj (pc := 1) g lk_RX10_5 im_obj cd_obj (Nat.le_of_ble_eq_true rfl) dX10_init_1 ?_
  refine qv_aload_n (pc := 4) g dX10_init_4 rfl rfl ?_
  refine qv_sipush (v := 340) (pc := 5) g dX10_init_5 (by decide) ?_
  refine qv_newL (pc := 8) (n := 340) (id := b + 1) g ac_long (by decide) (by decide) (by decide) (qv_ln hb rfl) (qv_cC hRm (by decide) (by decide)) dX10_init_8 (fun M1 => ?_)
  refine qv_T (T1 := (T0 ++ [(10, 29, [some none, some none, some none, some none, some none, some none, some none, some none, some none, none, some none, some none, some none, some none, none, some none, some none, some none, none, some none, some none, some none, none, some none, none, none, none, none, some none]), (21, 340, [])])) (List.append_assoc _ _ _) ?_
  refine qv_putF (pc := 10) (T1 := (T0 ++ [(10, 29, [some (some (b + 1)), some none, some none, some none, some none, some none, some none, some none, some none, none, some none, some none, some none, some none, none, some none, some none, some none, none, some none, some none, some none, none, some none, none, none, none, none, some none]), (21, 340, [])])) g pw_RX10_11 rfl hin (by decide) (qv_at hb (k := 0) rfl) (Nat.le_of_ble_eq_true rfl) rfl (qv_st hb 0 _) rfl rfl dX10_init_10 ?_
  refine qv_aload_n (pc := 13) g dX10_init_13 rfl rfl ?_
  refine qv_sipush (v := 3264) (pc := 14) g dX10_init_14 (by decide) ?_
  refine qv_newL (pc := 17) (n := 3264) (id := b + 2) g ac_long (by decide) (by decide) (by decide) (qv_ln hb rfl) (qv_cC hRm (by decide) (by decide)) dX10_init_17 (fun M2 => ?_)
  refine qv_T (T1 := (T0 ++ [(10, 29, [some (some (b + 1)), some none, some none, some none, some none, some none, some none, some none, some none, none, some none, some none, some none, some none, none, some none, some none, some none, none, some none, some none, some none, none, some none, none, none, none, none, some none]), (21, 340, []), (21, 3264, [])])) (List.append_assoc _ _ _) ?_
  refine qv_putF (pc := 19) (T1 := (T0 ++ [(10, 29, [some (some (b + 1)), some (some (b + 2)), some none, some none, some none, some none, some none, some none, some none, none, some none, some none, some none, some none, none, some none, some none, some none, none, some none, some none, some none, none, some none, none, none, none, none, some none]), (21, 340, []), (21, 3264, [])])) g pw_RX10_15 rfl hin (by decide) (qv_at hb (k := 0) rfl) (Nat.le_of_ble_eq_true rfl) rfl (qv_st hb 0 _) rfl rfl dX10_init_19 ?_
  refine qv_aload_n (pc := 22) g dX10_init_22 rfl rfl ?_
  refine qv_bipush (v := 68) (pc := 23) g dX10_init_23 (by decide) ?_
  refine qv_newL (pc := 25) (n := 68) (id := b + 3) g ac_long (by decide) (by decide) (by decide) (qv_ln hb rfl) (qv_cC hRm (by decide) (by decide)) dX10_init_25 (fun M3 => ?_)
  refine qv_T (T1 := (T0 ++ [(10, 29, [some (some (b + 1)), some (some (b + 2)), some none, some none, some none, some none, some none, some none, some none, none, some none, some none, some none, some none, none, some none, some none, some none, none, some none, some none, some none, none, some none, none, none, none, none, some none]), (21, 340, []), (21, 3264, []), (21, 68, [])])) (List.append_assoc _ _ _) ?_
  refine qv_putF (pc := 27) (T1 := (T0 ++ [(10, 29, [some (some (b + 1)), some (some (b + 2)), some (some (b + 3)), some none, some none, some none, some none, some none, some none, none, some none, some none, some none, some none, none, some none, some none, some none, none, some none, some none, some none, none, some none, none, none, none, none, some none]), (21, 340, []), (21, 3264, []), (21, 68, [])])) g pw_RX10_18 rfl hin (by decide) (qv_at hb (k := 0) rfl) (Nat.le_of_ble_eq_true rfl) rfl (qv_st hb 0 _) rfl rfl dX10_init_27 ?_
  refine qv_aload_n (pc := 30) g dX10_init_30 rfl rfl ?_
  refine qv_bipush (v := 7) (pc := 31) g dX10_init_31 (by decide) ?_
  refine qv_newI (pc := 33) (n := 7) (id := b + 4) g ac_int (by decide) (by decide) (by decide) (qv_ln hb rfl) (qv_cC hRm (by decide) (by decide)) dX10_init_33 (fun M4 => ?_)
  refine qv_T (T1 := (T0 ++ [(10, 29, [some (some (b + 1)), some (some (b + 2)), some (some (b + 3)), some none, some none, some none, some none, some none, some none, none, some none, some none, some none, some none, none, some none, some none, some none, none, some none, some none, some none, none, some none, none, none, none, none, some none]), (21, 340, []), (21, 3264, []), (21, 68, []), (20, 7, [])])) (List.append_assoc _ _ _) ?_
  refine qv_putF (pc := 35) (T1 := (T0 ++ [(10, 29, [some (some (b + 1)), some (some (b + 2)), some (some (b + 3)), some (some (b + 4)), some none, some none, some none, some none, some none, none, some none, some none, some none, some none, none, some none, some none, some none, none, some none, some none, some none, none, some none, none, none, none, none, some none]), (21, 340, []), (21, 3264, []), (21, 68, []), (20, 7, [])])) g pw_RX10_21 rfl hin (by decide) (qv_at hb (k := 0) rfl) (Nat.le_of_ble_eq_true rfl) rfl (qv_st hb 0 _) rfl rfl dX10_init_35 ?_
  refine qv_aload_n (pc := 38) g dX10_init_38 rfl rfl ?_
  refine qv_bipush (v := 7) (pc := 39) g dX10_init_39 (by decide) ?_
  refine qv_newI (pc := 41) (n := 7) (id := b + 5) g ac_int (by decide) (by decide) (by decide) (qv_ln hb rfl) (qv_cC hRm (by decide) (by decide)) dX10_init_41 (fun M5 => ?_)
  refine qv_T (T1 := (T0 ++ [(10, 29, [some (some (b + 1)), some (some (b + 2)), some (some (b + 3)), some (some (b + 4)), some none, some none, some none, some none, some none, none, some none, some none, some none, some none, none, some none, some none, some none, none, some none, some none, some none, none, some none, none, none, none, none, some none]), (21, 340, []), (21, 3264, []), (21, 68, []), (20, 7, []), (20, 7, [])])) (List.append_assoc _ _ _) ?_
  refine qv_putF (pc := 43) (T1 := (T0 ++ [(10, 29, [some (some (b + 1)), some (some (b + 2)), some (some (b + 3)), some (some (b + 4)), some (some (b + 5)), some none, some none, some none, some none, none, some none, some none, some none, some none, none, some none, some none, some none, none, some none, some none, some none, none, some none, none, none, none, none, some none]), (21, 340, []), (21, 3264, []), (21, 68, []), (20, 7, []), (20, 7, [])])) g pw_RX10_25 rfl hin (by decide) (qv_at hb (k := 0) rfl) (Nat.le_of_ble_eq_true rfl) rfl (qv_st hb 0 _) rfl rfl dX10_init_43 ?_
  refine qv_aload_n (pc := 46) g dX10_init_46 rfl rfl ?_
  refine qv_sipush (v := 180) (pc := 47) g dX10_init_47 (by decide) ?_
  refine qv_newI (pc := 50) (n := 180) (id := b + 6) g ac_int (by decide) (by decide) (by decide) (qv_ln hb rfl) (qv_cC hRm (by decide) (by decide)) dX10_init_50 (fun M6 => ?_)
  refine qv_T (T1 := (T0 ++ [(10, 29, [some (some (b + 1)), some (some (b + 2)), some (some (b + 3)), some (some (b + 4)), some (some (b + 5)), some none, some none, some none, some none, none, some none, some none, some none, some none, none, some none, some none, some none, none, some none, some none, some none, none, some none, none, none, none, none, some none]), (21, 340, []), (21, 3264, []), (21, 68, []), (20, 7, []), (20, 7, []), (20, 180, [])])) (List.append_assoc _ _ _) ?_
  refine qv_putF (pc := 52) (T1 := (T0 ++ [(10, 29, [some (some (b + 1)), some (some (b + 2)), some (some (b + 3)), some (some (b + 4)), some (some (b + 5)), some (some (b + 6)), some none, some none, some none, none, some none, some none, some none, some none, none, some none, some none, some none, none, some none, some none, some none, none, some none, none, none, none, none, some none]), (21, 340, []), (21, 3264, []), (21, 68, []), (20, 7, []), (20, 7, []), (20, 180, [])])) g pw_RX10_28 rfl hin (by decide) (qv_at hb (k := 0) rfl) (Nat.le_of_ble_eq_true rfl) rfl (qv_st hb 0 _) rfl rfl dX10_init_52 ?_
  refine qv_aload_n (pc := 55) g dX10_init_55 rfl rfl ?_
  refine qv_iconst (v := 3) (pc := 56) g dX10_init_56 (by decide) ?_
  refine qv_newI (pc := 57) (n := 3) (id := b + 7) g ac_int (by decide) (by decide) (by decide) (qv_ln hb rfl) (qv_cC hRm (by decide) (by decide)) dX10_init_57 (fun M7 => ?_)
  refine qv_T (T1 := (T0 ++ [(10, 29, [some (some (b + 1)), some (some (b + 2)), some (some (b + 3)), some (some (b + 4)), some (some (b + 5)), some (some (b + 6)), some none, some none, some none, none, some none, some none, some none, some none, none, some none, some none, some none, none, some none, some none, some none, none, some none, none, none, none, none, some none]), (21, 340, []), (21, 3264, []), (21, 68, []), (20, 7, []), (20, 7, []), (20, 180, []), (20, 3, [])])) (List.append_assoc _ _ _) ?_
  refine qv_putF (pc := 59) (T1 := (T0 ++ [(10, 29, [some (some (b + 1)), some (some (b + 2)), some (some (b + 3)), some (some (b + 4)), some (some (b + 5)), some (some (b + 6)), some (some (b + 7)), some none, some none, none, some none, some none, some none, some none, none, some none, some none, some none, none, some none, some none, some none, none, some none, none, none, none, none, some none]), (21, 340, []), (21, 3264, []), (21, 68, []), (20, 7, []), (20, 7, []), (20, 180, []), (20, 3, [])])) g pw_RX10_31 rfl hin (by decide) (qv_at hb (k := 0) rfl) (Nat.le_of_ble_eq_true rfl) rfl (qv_st hb 0 _) rfl rfl dX10_init_59 ?_
  refine qv_aload_n (pc := 62) g dX10_init_62 rfl rfl ?_
  refine qv_sipush (v := 180) (pc := 63) g dX10_init_63 (by decide) ?_
  refine qv_newI (pc := 66) (n := 180) (id := b + 8) g ac_int (by decide) (by decide) (by decide) (qv_ln hb rfl) (qv_cC hRm (by decide) (by decide)) dX10_init_66 (fun M8 => ?_)
  refine qv_T (T1 := (T0 ++ [(10, 29, [some (some (b + 1)), some (some (b + 2)), some (some (b + 3)), some (some (b + 4)), some (some (b + 5)), some (some (b + 6)), some (some (b + 7)), some none, some none, none, some none, some none, some none, some none, none, some none, some none, some none, none, some none, some none, some none, none, some none, none, none, none, none, some none]), (21, 340, []), (21, 3264, []), (21, 68, []), (20, 7, []), (20, 7, []), (20, 180, []), (20, 3, []), (20, 180, [])])) (List.append_assoc _ _ _) ?_
  refine qv_putF (pc := 68) (T1 := (T0 ++ [(10, 29, [some (some (b + 1)), some (some (b + 2)), some (some (b + 3)), some (some (b + 4)), some (some (b + 5)), some (some (b + 6)), some (some (b + 7)), some (some (b + 8)), some none, none, some none, some none, some none, some none, none, some none, some none, some none, none, some none, some none, some none, none, some none, none, none, none, none, some none]), (21, 340, []), (21, 3264, []), (21, 68, []), (20, 7, []), (20, 7, []), (20, 180, []), (20, 3, []), (20, 180, [])])) g pw_RX10_34 rfl hin (by decide) (qv_at hb (k := 0) rfl) (Nat.le_of_ble_eq_true rfl) rfl (qv_st hb 0 _) rfl rfl dX10_init_68 ?_
  refine qv_aload_n (pc := 71) g dX10_init_71 rfl rfl ?_
  refine qv_iconst (v := 3) (pc := 72) g dX10_init_72 (by decide) ?_
  refine qv_newI (pc := 73) (n := 3) (id := b + 9) g ac_int (by decide) (by decide) (by decide) (qv_ln hb rfl) (qv_cC hRm (by decide) (by decide)) dX10_init_73 (fun M9 => ?_)
  refine qv_T (T1 := (T0 ++ [(10, 29, [some (some (b + 1)), some (some (b + 2)), some (some (b + 3)), some (some (b + 4)), some (some (b + 5)), some (some (b + 6)), some (some (b + 7)), some (some (b + 8)), some none, none, some none, some none, some none, some none, none, some none, some none, some none, none, some none, some none, some none, none, some none, none, none, none, none, some none]), (21, 340, []), (21, 3264, []), (21, 68, []), (20, 7, []), (20, 7, []), (20, 180, []), (20, 3, []), (20, 180, []), (20, 3, [])])) (List.append_assoc _ _ _) ?_
  refine qv_putF (pc := 75) (T1 := (T0 ++ [(10, 29, [some (some (b + 1)), some (some (b + 2)), some (some (b + 3)), some (some (b + 4)), some (some (b + 5)), some (some (b + 6)), some (some (b + 7)), some (some (b + 8)), some (some (b + 9)), none, some none, some none, some none, some none, none, some none, some none, some none, none, some none, some none, some none, none, some none, none, none, none, none, some none]), (21, 340, []), (21, 3264, []), (21, 68, []), (20, 7, []), (20, 7, []), (20, 180, []), (20, 3, []), (20, 180, []), (20, 3, [])])) g pw_RX10_37 rfl hin (by decide) (qv_at hb (k := 0) rfl) (Nat.le_of_ble_eq_true rfl) rfl (qv_st hb 0 _) rfl rfl dX10_init_75 ?_
  refine qv_aload_n (pc := 78) g dX10_init_78 rfl rfl ?_
  refine qv_bipush (v := 9) (pc := 79) g dX10_init_79 (by decide) ?_
  refine qv_newL (pc := 81) (n := 9) (id := b + 10) g ac_long (by decide) (by decide) (by decide) (qv_ln hb rfl) (qv_cC hRm (by decide) (by decide)) dX10_init_81 (fun M10 => ?_)
  refine qv_T (T1 := (T0 ++ [(10, 29, [some (some (b + 1)), some (some (b + 2)), some (some (b + 3)), some (some (b + 4)), some (some (b + 5)), some (some (b + 6)), some (some (b + 7)), some (some (b + 8)), some (some (b + 9)), none, some none, some none, some none, some none, none, some none, some none, some none, none, some none, some none, some none, none, some none, none, none, none, none, some none]), (21, 340, []), (21, 3264, []), (21, 68, []), (20, 7, []), (20, 7, []), (20, 180, []), (20, 3, []), (20, 180, []), (20, 3, []), (21, 9, [])])) (List.append_assoc _ _ _) ?_
  refine qv_putF (pc := 83) (T1 := (T0 ++ [(10, 29, [some (some (b + 1)), some (some (b + 2)), some (some (b + 3)), some (some (b + 4)), some (some (b + 5)), some (some (b + 6)), some (some (b + 7)), some (some (b + 8)), some (some (b + 9)), none, some (some (b + 10)), some none, some none, some none, none, some none, some none, some none, none, some none, some none, some none, none, some none, none, none, none, none, some none]), (21, 340, []), (21, 3264, []), (21, 68, []), (20, 7, []), (20, 7, []), (20, 180, []), (20, 3, []), (20, 180, []), (20, 3, []), (21, 9, [])])) g pw_RX10_40 rfl hin (by decide) (qv_at hb (k := 0) rfl) (Nat.le_of_ble_eq_true rfl) rfl (qv_st hb 0 _) rfl rfl dX10_init_83 ?_
  refine qv_aload_n (pc := 86) g dX10_init_86 rfl rfl ?_
  refine qv_bipush (v := 9) (pc := 87) g dX10_init_87 (by decide) ?_
  refine qv_newL (pc := 89) (n := 9) (id := b + 11) g ac_long (by decide) (by decide) (by decide) (qv_ln hb rfl) (qv_cC hRm (by decide) (by decide)) dX10_init_89 (fun M11 => ?_)
  refine qv_T (T1 := (T0 ++ [(10, 29, [some (some (b + 1)), some (some (b + 2)), some (some (b + 3)), some (some (b + 4)), some (some (b + 5)), some (some (b + 6)), some (some (b + 7)), some (some (b + 8)), some (some (b + 9)), none, some (some (b + 10)), some none, some none, some none, none, some none, some none, some none, none, some none, some none, some none, none, some none, none, none, none, none, some none]), (21, 340, []), (21, 3264, []), (21, 68, []), (20, 7, []), (20, 7, []), (20, 180, []), (20, 3, []), (20, 180, []), (20, 3, []), (21, 9, []), (21, 9, [])])) (List.append_assoc _ _ _) ?_
  refine qv_putF (pc := 91) (T1 := (T0 ++ [(10, 29, [some (some (b + 1)), some (some (b + 2)), some (some (b + 3)), some (some (b + 4)), some (some (b + 5)), some (some (b + 6)), some (some (b + 7)), some (some (b + 8)), some (some (b + 9)), none, some (some (b + 10)), some (some (b + 11)), some none, some none, none, some none, some none, some none, none, some none, some none, some none, none, some none, none, none, none, none, some none]), (21, 340, []), (21, 3264, []), (21, 68, []), (20, 7, []), (20, 7, []), (20, 180, []), (20, 3, []), (20, 180, []), (20, 3, []), (21, 9, []), (21, 9, [])])) g pw_RX10_43 rfl hin (by decide) (qv_at hb (k := 0) rfl) (Nat.le_of_ble_eq_true rfl) rfl (qv_st hb 0 _) rfl rfl dX10_init_91 ?_
  refine qv_aload_n (pc := 94) g dX10_init_94 rfl rfl ?_
  refine qv_sipush (v := 1344) (pc := 95) g dX10_init_95 (by decide) ?_
  refine qv_newI (pc := 98) (n := 1344) (id := b + 12) g ac_int (by decide) (by decide) (by decide) (qv_ln hb rfl) (qv_cC hRm (by decide) (by decide)) dX10_init_98 (fun M12 => ?_)
  refine qv_T (T1 := (T0 ++ [(10, 29, [some (some (b + 1)), some (some (b + 2)), some (some (b + 3)), some (some (b + 4)), some (some (b + 5)), some (some (b + 6)), some (some (b + 7)), some (some (b + 8)), some (some (b + 9)), none, some (some (b + 10)), some (some (b + 11)), some none, some none, none, some none, some none, some none, none, some none, some none, some none, none, some none, none, none, none, none, some none]), (21, 340, []), (21, 3264, []), (21, 68, []), (20, 7, []), (20, 7, []), (20, 180, []), (20, 3, []), (20, 180, []), (20, 3, []), (21, 9, []), (21, 9, []), (20, 1344, [])])) (List.append_assoc _ _ _) ?_
  refine qv_putF (pc := 100) (T1 := (T0 ++ [(10, 29, [some (some (b + 1)), some (some (b + 2)), some (some (b + 3)), some (some (b + 4)), some (some (b + 5)), some (some (b + 6)), some (some (b + 7)), some (some (b + 8)), some (some (b + 9)), none, some (some (b + 10)), some (some (b + 11)), some (some (b + 12)), some none, none, some none, some none, some none, none, some none, some none, some none, none, some none, none, none, none, none, some none]), (21, 340, []), (21, 3264, []), (21, 68, []), (20, 7, []), (20, 7, []), (20, 180, []), (20, 3, []), (20, 180, []), (20, 3, []), (21, 9, []), (21, 9, []), (20, 1344, [])])) g pw_RX10_46 rfl hin (by decide) (qv_at hb (k := 0) rfl) (Nat.le_of_ble_eq_true rfl) rfl (qv_st hb 0 _) rfl rfl dX10_init_100 ?_
  refine qv_aload_n (pc := 103) g dX10_init_103 rfl rfl ?_
  refine qv_sipush (v := 1344) (pc := 104) g dX10_init_104 (by decide) ?_
  refine qv_newI (pc := 107) (n := 1344) (id := b + 13) g ac_int (by decide) (by decide) (by decide) (qv_ln hb rfl) (qv_cC hRm (by decide) (by decide)) dX10_init_107 (fun M13 => ?_)
  refine qv_T (T1 := (T0 ++ [(10, 29, [some (some (b + 1)), some (some (b + 2)), some (some (b + 3)), some (some (b + 4)), some (some (b + 5)), some (some (b + 6)), some (some (b + 7)), some (some (b + 8)), some (some (b + 9)), none, some (some (b + 10)), some (some (b + 11)), some (some (b + 12)), some none, none, some none, some none, some none, none, some none, some none, some none, none, some none, none, none, none, none, some none]), (21, 340, []), (21, 3264, []), (21, 68, []), (20, 7, []), (20, 7, []), (20, 180, []), (20, 3, []), (20, 180, []), (20, 3, []), (21, 9, []), (21, 9, []), (20, 1344, []), (20, 1344, [])])) (List.append_assoc _ _ _) ?_
  refine qv_putF (pc := 109) (T1 := (T0 ++ [(10, 29, [some (some (b + 1)), some (some (b + 2)), some (some (b + 3)), some (some (b + 4)), some (some (b + 5)), some (some (b + 6)), some (some (b + 7)), some (some (b + 8)), some (some (b + 9)), none, some (some (b + 10)), some (some (b + 11)), some (some (b + 12)), some (some (b + 13)), none, some none, some none, some none, none, some none, some none, some none, none, some none, none, none, none, none, some none]), (21, 340, []), (21, 3264, []), (21, 68, []), (20, 7, []), (20, 7, []), (20, 180, []), (20, 3, []), (20, 180, []), (20, 3, []), (21, 9, []), (21, 9, []), (20, 1344, []), (20, 1344, [])])) g pw_RX10_49 rfl hin (by decide) (qv_at hb (k := 0) rfl) (Nat.le_of_ble_eq_true rfl) rfl (qv_st hb 0 _) rfl rfl dX10_init_109 ?_
  refine qv_aload_n (pc := 112) g dX10_init_112 rfl rfl ?_
  refine qv_sipush (v := 192) (pc := 113) g dX10_init_113 (by decide) ?_
  refine qv_newI (pc := 116) (n := 192) (id := b + 14) g ac_int (by decide) (by decide) (by decide) (qv_ln hb rfl) (qv_cC hRm (by decide) (by decide)) dX10_init_116 (fun M14 => ?_)
  refine qv_T (T1 := (T0 ++ [(10, 29, [some (some (b + 1)), some (some (b + 2)), some (some (b + 3)), some (some (b + 4)), some (some (b + 5)), some (some (b + 6)), some (some (b + 7)), some (some (b + 8)), some (some (b + 9)), none, some (some (b + 10)), some (some (b + 11)), some (some (b + 12)), some (some (b + 13)), none, some none, some none, some none, none, some none, some none, some none, none, some none, none, none, none, none, some none]), (21, 340, []), (21, 3264, []), (21, 68, []), (20, 7, []), (20, 7, []), (20, 180, []), (20, 3, []), (20, 180, []), (20, 3, []), (21, 9, []), (21, 9, []), (20, 1344, []), (20, 1344, []), (20, 192, [])])) (List.append_assoc _ _ _) ?_
  refine qv_putF (pc := 118) (T1 := (T0 ++ [(10, 29, [some (some (b + 1)), some (some (b + 2)), some (some (b + 3)), some (some (b + 4)), some (some (b + 5)), some (some (b + 6)), some (some (b + 7)), some (some (b + 8)), some (some (b + 9)), none, some (some (b + 10)), some (some (b + 11)), some (some (b + 12)), some (some (b + 13)), none, some (some (b + 14)), some none, some none, none, some none, some none, some none, none, some none, none, none, none, none, some none]), (21, 340, []), (21, 3264, []), (21, 68, []), (20, 7, []), (20, 7, []), (20, 180, []), (20, 3, []), (20, 180, []), (20, 3, []), (21, 9, []), (21, 9, []), (20, 1344, []), (20, 1344, []), (20, 192, [])])) g pw_RX10_52 rfl hin (by decide) (qv_at hb (k := 0) rfl) (Nat.le_of_ble_eq_true rfl) rfl (qv_st hb 0 _) rfl rfl dX10_init_118 ?_
  refine qv_aload_n (pc := 121) g dX10_init_121 rfl rfl ?_
  refine qv_sipush (v := 192) (pc := 122) g dX10_init_122 (by decide) ?_
  refine qv_newI (pc := 125) (n := 192) (id := b + 15) g ac_int (by decide) (by decide) (by decide) (qv_ln hb rfl) (qv_cC hRm (by decide) (by decide)) dX10_init_125 (fun M15 => ?_)
  refine qv_T (T1 := (T0 ++ [(10, 29, [some (some (b + 1)), some (some (b + 2)), some (some (b + 3)), some (some (b + 4)), some (some (b + 5)), some (some (b + 6)), some (some (b + 7)), some (some (b + 8)), some (some (b + 9)), none, some (some (b + 10)), some (some (b + 11)), some (some (b + 12)), some (some (b + 13)), none, some (some (b + 14)), some none, some none, none, some none, some none, some none, none, some none, none, none, none, none, some none]), (21, 340, []), (21, 3264, []), (21, 68, []), (20, 7, []), (20, 7, []), (20, 180, []), (20, 3, []), (20, 180, []), (20, 3, []), (21, 9, []), (21, 9, []), (20, 1344, []), (20, 1344, []), (20, 192, []), (20, 192, [])])) (List.append_assoc _ _ _) ?_
  refine qv_putF (pc := 127) (T1 := (T0 ++ [(10, 29, [some (some (b + 1)), some (some (b + 2)), some (some (b + 3)), some (some (b + 4)), some (some (b + 5)), some (some (b + 6)), some (some (b + 7)), some (some (b + 8)), some (some (b + 9)), none, some (some (b + 10)), some (some (b + 11)), some (some (b + 12)), some (some (b + 13)), none, some (some (b + 14)), some (some (b + 15)), some none, none, some none, some none, some none, none, some none, none, none, none, none, some none]), (21, 340, []), (21, 3264, []), (21, 68, []), (20, 7, []), (20, 7, []), (20, 180, []), (20, 3, []), (20, 180, []), (20, 3, []), (21, 9, []), (21, 9, []), (20, 1344, []), (20, 1344, []), (20, 192, []), (20, 192, [])])) g pw_RX10_55 rfl hin (by decide) (qv_at hb (k := 0) rfl) (Nat.le_of_ble_eq_true rfl) rfl (qv_st hb 0 _) rfl rfl dX10_init_127 ?_
  refine qv_aload_n (pc := 130) g dX10_init_130 rfl rfl ?_
  refine qv_sipush (v := 600) (pc := 131) g dX10_init_131 (by decide) ?_
  refine qv_newI (pc := 134) (n := 600) (id := b + 16) g ac_int (by decide) (by decide) (by decide) (qv_ln hb rfl) (qv_cC hRm (by decide) (by decide)) dX10_init_134 (fun M16 => ?_)
  refine qv_T (T1 := (T0 ++ [(10, 29, [some (some (b + 1)), some (some (b + 2)), some (some (b + 3)), some (some (b + 4)), some (some (b + 5)), some (some (b + 6)), some (some (b + 7)), some (some (b + 8)), some (some (b + 9)), none, some (some (b + 10)), some (some (b + 11)), some (some (b + 12)), some (some (b + 13)), none, some (some (b + 14)), some (some (b + 15)), some none, none, some none, some none, some none, none, some none, none, none, none, none, some none]), (21, 340, []), (21, 3264, []), (21, 68, []), (20, 7, []), (20, 7, []), (20, 180, []), (20, 3, []), (20, 180, []), (20, 3, []), (21, 9, []), (21, 9, []), (20, 1344, []), (20, 1344, []), (20, 192, []), (20, 192, []), (20, 600, [])])) (List.append_assoc _ _ _) ?_
  refine qv_putF (pc := 136) (T1 := (T0 ++ [(10, 29, [some (some (b + 1)), some (some (b + 2)), some (some (b + 3)), some (some (b + 4)), some (some (b + 5)), some (some (b + 6)), some (some (b + 7)), some (some (b + 8)), some (some (b + 9)), none, some (some (b + 10)), some (some (b + 11)), some (some (b + 12)), some (some (b + 13)), none, some (some (b + 14)), some (some (b + 15)), some (some (b + 16)), none, some none, some none, some none, none, some none, none, none, none, none, some none]), (21, 340, []), (21, 3264, []), (21, 68, []), (20, 7, []), (20, 7, []), (20, 180, []), (20, 3, []), (20, 180, []), (20, 3, []), (21, 9, []), (21, 9, []), (20, 1344, []), (20, 1344, []), (20, 192, []), (20, 192, []), (20, 600, [])])) g pw_RX10_58 rfl hin (by decide) (qv_at hb (k := 0) rfl) (Nat.le_of_ble_eq_true rfl) rfl (qv_st hb 0 _) rfl rfl dX10_init_136 ?_
  refine qv_aload_n (pc := 139) g dX10_init_139 rfl rfl ?_
  refine qv_sipush (v := 480) (pc := 140) g dX10_init_140 (by decide) ?_
  refine qv_newI (pc := 143) (n := 480) (id := b + 17) g ac_int (by decide) (by decide) (by decide) (qv_ln hb rfl) (qv_cC hRm (by decide) (by decide)) dX10_init_143 (fun M17 => ?_)
  refine qv_T (T1 := (T0 ++ [(10, 29, [some (some (b + 1)), some (some (b + 2)), some (some (b + 3)), some (some (b + 4)), some (some (b + 5)), some (some (b + 6)), some (some (b + 7)), some (some (b + 8)), some (some (b + 9)), none, some (some (b + 10)), some (some (b + 11)), some (some (b + 12)), some (some (b + 13)), none, some (some (b + 14)), some (some (b + 15)), some (some (b + 16)), none, some none, some none, some none, none, some none, none, none, none, none, some none]), (21, 340, []), (21, 3264, []), (21, 68, []), (20, 7, []), (20, 7, []), (20, 180, []), (20, 3, []), (20, 180, []), (20, 3, []), (21, 9, []), (21, 9, []), (20, 1344, []), (20, 1344, []), (20, 192, []), (20, 192, []), (20, 600, []), (20, 480, [])])) (List.append_assoc _ _ _) ?_
  refine qv_putF (pc := 145) (T1 := (T0 ++ [(10, 29, [some (some (b + 1)), some (some (b + 2)), some (some (b + 3)), some (some (b + 4)), some (some (b + 5)), some (some (b + 6)), some (some (b + 7)), some (some (b + 8)), some (some (b + 9)), none, some (some (b + 10)), some (some (b + 11)), some (some (b + 12)), some (some (b + 13)), none, some (some (b + 14)), some (some (b + 15)), some (some (b + 16)), none, some (some (b + 17)), some none, some none, none, some none, none, none, none, none, some none]), (21, 340, []), (21, 3264, []), (21, 68, []), (20, 7, []), (20, 7, []), (20, 180, []), (20, 3, []), (20, 180, []), (20, 3, []), (21, 9, []), (21, 9, []), (20, 1344, []), (20, 1344, []), (20, 192, []), (20, 192, []), (20, 600, []), (20, 480, [])])) g pw_RX10_61 rfl hin (by decide) (qv_at hb (k := 0) rfl) (Nat.le_of_ble_eq_true rfl) rfl (qv_st hb 0 _) rfl rfl dX10_init_145 ?_
  refine qv_aload_n (pc := 148) g dX10_init_148 rfl rfl ?_
  refine qv_bipush (v := 8) (pc := 149) g dX10_init_149 (by decide) ?_
  refine qv_newI (pc := 151) (n := 8) (id := b + 18) g ac_int (by decide) (by decide) (by decide) (qv_ln hb rfl) (qv_cC hRm (by decide) (by decide)) dX10_init_151 (fun M18 => ?_)
  refine qv_T (T1 := (T0 ++ [(10, 29, [some (some (b + 1)), some (some (b + 2)), some (some (b + 3)), some (some (b + 4)), some (some (b + 5)), some (some (b + 6)), some (some (b + 7)), some (some (b + 8)), some (some (b + 9)), none, some (some (b + 10)), some (some (b + 11)), some (some (b + 12)), some (some (b + 13)), none, some (some (b + 14)), some (some (b + 15)), some (some (b + 16)), none, some (some (b + 17)), some none, some none, none, some none, none, none, none, none, some none]), (21, 340, []), (21, 3264, []), (21, 68, []), (20, 7, []), (20, 7, []), (20, 180, []), (20, 3, []), (20, 180, []), (20, 3, []), (21, 9, []), (21, 9, []), (20, 1344, []), (20, 1344, []), (20, 192, []), (20, 192, []), (20, 600, []), (20, 480, []), (20, 8, [])])) (List.append_assoc _ _ _) ?_
  refine qv_putF (pc := 153) (T1 := (T0 ++ [(10, 29, [some (some (b + 1)), some (some (b + 2)), some (some (b + 3)), some (some (b + 4)), some (some (b + 5)), some (some (b + 6)), some (some (b + 7)), some (some (b + 8)), some (some (b + 9)), none, some (some (b + 10)), some (some (b + 11)), some (some (b + 12)), some (some (b + 13)), none, some (some (b + 14)), some (some (b + 15)), some (some (b + 16)), none, some (some (b + 17)), some (some (b + 18)), some none, none, some none, none, none, none, none, some none]), (21, 340, []), (21, 3264, []), (21, 68, []), (20, 7, []), (20, 7, []), (20, 180, []), (20, 3, []), (20, 180, []), (20, 3, []), (21, 9, []), (21, 9, []), (20, 1344, []), (20, 1344, []), (20, 192, []), (20, 192, []), (20, 600, []), (20, 480, []), (20, 8, [])])) g pw_RX10_64 rfl hin (by decide) (qv_at hb (k := 0) rfl) (Nat.le_of_ble_eq_true rfl) rfl (qv_st hb 0 _) rfl rfl dX10_init_153 ?_
  refine qv_aload_n (pc := 156) g dX10_init_156 rfl rfl ?_
  refine qv_bipush (v := 8) (pc := 157) g dX10_init_157 (by decide) ?_
  refine qv_newI (pc := 159) (n := 8) (id := b + 19) g ac_int (by decide) (by decide) (by decide) (qv_ln hb rfl) (qv_cC hRm (by decide) (by decide)) dX10_init_159 (fun M19 => ?_)
  refine qv_T (T1 := (T0 ++ [(10, 29, [some (some (b + 1)), some (some (b + 2)), some (some (b + 3)), some (some (b + 4)), some (some (b + 5)), some (some (b + 6)), some (some (b + 7)), some (some (b + 8)), some (some (b + 9)), none, some (some (b + 10)), some (some (b + 11)), some (some (b + 12)), some (some (b + 13)), none, some (some (b + 14)), some (some (b + 15)), some (some (b + 16)), none, some (some (b + 17)), some (some (b + 18)), some none, none, some none, none, none, none, none, some none]), (21, 340, []), (21, 3264, []), (21, 68, []), (20, 7, []), (20, 7, []), (20, 180, []), (20, 3, []), (20, 180, []), (20, 3, []), (21, 9, []), (21, 9, []), (20, 1344, []), (20, 1344, []), (20, 192, []), (20, 192, []), (20, 600, []), (20, 480, []), (20, 8, []), (20, 8, [])])) (List.append_assoc _ _ _) ?_
  refine qv_putF (pc := 161) (T1 := (T0 ++ [(10, 29, [some (some (b + 1)), some (some (b + 2)), some (some (b + 3)), some (some (b + 4)), some (some (b + 5)), some (some (b + 6)), some (some (b + 7)), some (some (b + 8)), some (some (b + 9)), none, some (some (b + 10)), some (some (b + 11)), some (some (b + 12)), some (some (b + 13)), none, some (some (b + 14)), some (some (b + 15)), some (some (b + 16)), none, some (some (b + 17)), some (some (b + 18)), some (some (b + 19)), none, some none, none, none, none, none, some none]), (21, 340, []), (21, 3264, []), (21, 68, []), (20, 7, []), (20, 7, []), (20, 180, []), (20, 3, []), (20, 180, []), (20, 3, []), (21, 9, []), (21, 9, []), (20, 1344, []), (20, 1344, []), (20, 192, []), (20, 192, []), (20, 600, []), (20, 480, []), (20, 8, []), (20, 8, [])])) g pw_RX10_67 rfl hin (by decide) (qv_at hb (k := 0) rfl) (Nat.le_of_ble_eq_true rfl) rfl (qv_st hb 0 _) rfl rfl dX10_init_161 ?_
  refine qv_aload_n (pc := 164) g dX10_init_164 rfl rfl ?_
  refine qv_bipush (v := 80) (pc := 165) g dX10_init_165 (by decide) ?_
  refine qv_newI (pc := 167) (n := 80) (id := b + 20) g ac_int (by decide) (by decide) (by decide) (qv_ln hb rfl) (qv_cC hRm (by decide) (by decide)) dX10_init_167 (fun M20 => ?_)
  refine qv_T (T1 := (T0 ++ [(10, 29, [some (some (b + 1)), some (some (b + 2)), some (some (b + 3)), some (some (b + 4)), some (some (b + 5)), some (some (b + 6)), some (some (b + 7)), some (some (b + 8)), some (some (b + 9)), none, some (some (b + 10)), some (some (b + 11)), some (some (b + 12)), some (some (b + 13)), none, some (some (b + 14)), some (some (b + 15)), some (some (b + 16)), none, some (some (b + 17)), some (some (b + 18)), some (some (b + 19)), none, some none, none, none, none, none, some none]), (21, 340, []), (21, 3264, []), (21, 68, []), (20, 7, []), (20, 7, []), (20, 180, []), (20, 3, []), (20, 180, []), (20, 3, []), (21, 9, []), (21, 9, []), (20, 1344, []), (20, 1344, []), (20, 192, []), (20, 192, []), (20, 600, []), (20, 480, []), (20, 8, []), (20, 8, []), (20, 80, [])])) (List.append_assoc _ _ _) ?_
  refine qv_putF (pc := 169) (T1 := (T0 ++ [(10, 29, [some (some (b + 1)), some (some (b + 2)), some (some (b + 3)), some (some (b + 4)), some (some (b + 5)), some (some (b + 6)), some (some (b + 7)), some (some (b + 8)), some (some (b + 9)), none, some (some (b + 10)), some (some (b + 11)), some (some (b + 12)), some (some (b + 13)), none, some (some (b + 14)), some (some (b + 15)), some (some (b + 16)), none, some (some (b + 17)), some (some (b + 18)), some (some (b + 19)), none, some (some (b + 20)), none, none, none, none, some none]), (21, 340, []), (21, 3264, []), (21, 68, []), (20, 7, []), (20, 7, []), (20, 180, []), (20, 3, []), (20, 180, []), (20, 3, []), (21, 9, []), (21, 9, []), (20, 1344, []), (20, 1344, []), (20, 192, []), (20, 192, []), (20, 600, []), (20, 480, []), (20, 8, []), (20, 8, []), (20, 80, [])])) g pw_RX10_70 rfl hin (by decide) (qv_at hb (k := 0) rfl) (Nat.le_of_ble_eq_true rfl) rfl (qv_st hb 0 _) rfl rfl dX10_init_169 ?_
  refine qv_aload_n (pc := 172) g dX10_init_172 rfl rfl ?_
  refine qv_bipush (v := 120) (pc := 173) g dX10_init_173 (by decide) ?_
  refine qv_newI (pc := 175) (n := 120) (id := b + 21) g ac_int (by decide) (by decide) (by decide) (qv_ln hb rfl) (qv_cC hRm (by decide) (by decide)) dX10_init_175 (fun M21 => ?_)
  refine qv_T (T1 := (T0 ++ [(10, 29, [some (some (b + 1)), some (some (b + 2)), some (some (b + 3)), some (some (b + 4)), some (some (b + 5)), some (some (b + 6)), some (some (b + 7)), some (some (b + 8)), some (some (b + 9)), none, some (some (b + 10)), some (some (b + 11)), some (some (b + 12)), some (some (b + 13)), none, some (some (b + 14)), some (some (b + 15)), some (some (b + 16)), none, some (some (b + 17)), some (some (b + 18)), some (some (b + 19)), none, some (some (b + 20)), none, none, none, none, some none]), (21, 340, []), (21, 3264, []), (21, 68, []), (20, 7, []), (20, 7, []), (20, 180, []), (20, 3, []), (20, 180, []), (20, 3, []), (21, 9, []), (21, 9, []), (20, 1344, []), (20, 1344, []), (20, 192, []), (20, 192, []), (20, 600, []), (20, 480, []), (20, 8, []), (20, 8, []), (20, 80, []), (20, 120, [])])) (List.append_assoc _ _ _) ?_
  refine qv_putF (pc := 177) (T1 := (T0 ++ [(10, 29, [some (some (b + 1)), some (some (b + 2)), some (some (b + 3)), some (some (b + 4)), some (some (b + 5)), some (some (b + 6)), some (some (b + 7)), some (some (b + 8)), some (some (b + 9)), none, some (some (b + 10)), some (some (b + 11)), some (some (b + 12)), some (some (b + 13)), none, some (some (b + 14)), some (some (b + 15)), some (some (b + 16)), none, some (some (b + 17)), some (some (b + 18)), some (some (b + 19)), none, some (some (b + 20)), none, none, none, none, some (some (b + 21))]), (21, 340, []), (21, 3264, []), (21, 68, []), (20, 7, []), (20, 7, []), (20, 180, []), (20, 3, []), (20, 180, []), (20, 3, []), (21, 9, []), (21, 9, []), (20, 1344, []), (20, 1344, []), (20, 192, []), (20, 192, []), (20, 600, []), (20, 480, []), (20, 8, []), (20, 8, []), (20, 80, []), (20, 120, [])])) g pw_RX10_73 rfl hin (by decide) (qv_at hb (k := 0) rfl) (Nat.le_of_ble_eq_true rfl) rfl (qv_st hb 0 _) rfl rfl dX10_init_177 ?_
  refine qv_iconst (v := 0) (pc := 180) g dX10_init_180 (by decide) ?_
  refine qv_istore_n (pc := 181) (lv1 := [(1, .int 0), (0, .ref (X.2.2.2 + b))]) g dX10_init_181 rfl (by decide) rfl ?_
  refine qv_iload_n (pc := 182) g dX10_init_182 rfl rfl ?_
  refine qv_bipush (v := 7) (pc := 183) g dX10_init_183 (by decide) ?_
  refine qv_geF (pc := 185) (tgt := 201) g dX10_init_185 (by decide) (by decide) ?_
  refine qv_aload_n (pc := 188) g dX10_init_188 rfl rfl ?_
  refine qv_get1 (pc := 189) (r := b + 4) g fw_RX10_21 (by decide) (qv_at hb (k := 0) rfl) rfl dX10_init_189 ?_
  refine qv_iload_n (pc := 192) g dX10_init_192 rfl rfl ?_
  refine qv_iconst (v := 1) (pc := 193) g dX10_init_193 (by decide) ?_
  refine qv_iast (pc := 194) (m := 0) g ⟨_, qv_at hb (k := 4) rfl⟩ dX10_init_194 (fun M22 => ?_)
  refine qv_iinc (pc := 195) (v := 1) (lv1 := [(1, .int 1), (0, .ref (X.2.2.2 + b))]) g dX10_init_195 rfl rfl (by decide) rfl ?_
  refine qv_goto (pc := 198) (tgt := 182) g dX10_init_198 (by decide) ?_
  refine qv_iload_n (pc := 182) g dX10_init_182 rfl rfl ?_
  refine qv_bipush (v := 7) (pc := 183) g dX10_init_183 (by decide) ?_
  refine qv_geF (pc := 185) (tgt := 201) g dX10_init_185 (by decide) (by decide) ?_
  refine qv_aload_n (pc := 188) g dX10_init_188 rfl rfl ?_
  refine qv_get1 (pc := 189) (r := b + 4) g fw_RX10_21 (by decide) (qv_at hb (k := 0) rfl) rfl dX10_init_189 ?_
  refine qv_iload_n (pc := 192) g dX10_init_192 rfl rfl ?_
  refine qv_iconst (v := 1) (pc := 193) g dX10_init_193 (by decide) ?_
  refine qv_iast (pc := 194) (m := 0) g ⟨_, qv_at hb (k := 4) rfl⟩ dX10_init_194 (fun M23 => ?_)
  refine qv_iinc (pc := 195) (v := 2) (lv1 := [(1, .int 2), (0, .ref (X.2.2.2 + b))]) g dX10_init_195 rfl rfl (by decide) rfl ?_
  refine qv_goto (pc := 198) (tgt := 182) g dX10_init_198 (by decide) ?_
  refine qv_iload_n (pc := 182) g dX10_init_182 rfl rfl ?_
  refine qv_bipush (v := 7) (pc := 183) g dX10_init_183 (by decide) ?_
  refine qv_geF (pc := 185) (tgt := 201) g dX10_init_185 (by decide) (by decide) ?_
  refine qv_aload_n (pc := 188) g dX10_init_188 rfl rfl ?_
  refine qv_get1 (pc := 189) (r := b + 4) g fw_RX10_21 (by decide) (qv_at hb (k := 0) rfl) rfl dX10_init_189 ?_
  refine qv_iload_n (pc := 192) g dX10_init_192 rfl rfl ?_
  refine qv_iconst (v := 1) (pc := 193) g dX10_init_193 (by decide) ?_
  refine qv_iast (pc := 194) (m := 0) g ⟨_, qv_at hb (k := 4) rfl⟩ dX10_init_194 (fun M24 => ?_)
  refine qv_iinc (pc := 195) (v := 3) (lv1 := [(1, .int 3), (0, .ref (X.2.2.2 + b))]) g dX10_init_195 rfl rfl (by decide) rfl ?_
  refine qv_goto (pc := 198) (tgt := 182) g dX10_init_198 (by decide) ?_
  refine qv_iload_n (pc := 182) g dX10_init_182 rfl rfl ?_
  refine qv_bipush (v := 7) (pc := 183) g dX10_init_183 (by decide) ?_
  refine qv_geF (pc := 185) (tgt := 201) g dX10_init_185 (by decide) (by decide) ?_
  refine qv_aload_n (pc := 188) g dX10_init_188 rfl rfl ?_
  refine qv_get1 (pc := 189) (r := b + 4) g fw_RX10_21 (by decide) (qv_at hb (k := 0) rfl) rfl dX10_init_189 ?_
  refine qv_iload_n (pc := 192) g dX10_init_192 rfl rfl ?_
  refine qv_iconst (v := 1) (pc := 193) g dX10_init_193 (by decide) ?_
  refine qv_iast (pc := 194) (m := 0) g ⟨_, qv_at hb (k := 4) rfl⟩ dX10_init_194 (fun M25 => ?_)
  refine qv_iinc (pc := 195) (v := 4) (lv1 := [(1, .int 4), (0, .ref (X.2.2.2 + b))]) g dX10_init_195 rfl rfl (by decide) rfl ?_
  refine qv_goto (pc := 198) (tgt := 182) g dX10_init_198 (by decide) ?_
  refine qv_iload_n (pc := 182) g dX10_init_182 rfl rfl ?_
  refine qv_bipush (v := 7) (pc := 183) g dX10_init_183 (by decide) ?_
  refine qv_geF (pc := 185) (tgt := 201) g dX10_init_185 (by decide) (by decide) ?_
  refine qv_aload_n (pc := 188) g dX10_init_188 rfl rfl ?_
  refine qv_get1 (pc := 189) (r := b + 4) g fw_RX10_21 (by decide) (qv_at hb (k := 0) rfl) rfl dX10_init_189 ?_
  refine qv_iload_n (pc := 192) g dX10_init_192 rfl rfl ?_
  refine qv_iconst (v := 1) (pc := 193) g dX10_init_193 (by decide) ?_
  refine qv_iast (pc := 194) (m := 0) g ⟨_, qv_at hb (k := 4) rfl⟩ dX10_init_194 (fun M26 => ?_)
  refine qv_iinc (pc := 195) (v := 5) (lv1 := [(1, .int 5), (0, .ref (X.2.2.2 + b))]) g dX10_init_195 rfl rfl (by decide) rfl ?_
  refine qv_goto (pc := 198) (tgt := 182) g dX10_init_198 (by decide) ?_
  refine qv_iload_n (pc := 182) g dX10_init_182 rfl rfl ?_
  refine qv_bipush (v := 7) (pc := 183) g dX10_init_183 (by decide) ?_
  refine qv_geF (pc := 185) (tgt := 201) g dX10_init_185 (by decide) (by decide) ?_
  refine qv_aload_n (pc := 188) g dX10_init_188 rfl rfl ?_
  refine qv_get1 (pc := 189) (r := b + 4) g fw_RX10_21 (by decide) (qv_at hb (k := 0) rfl) rfl dX10_init_189 ?_
  refine qv_iload_n (pc := 192) g dX10_init_192 rfl rfl ?_
  refine qv_iconst (v := 1) (pc := 193) g dX10_init_193 (by decide) ?_
  refine qv_iast (pc := 194) (m := 0) g ⟨_, qv_at hb (k := 4) rfl⟩ dX10_init_194 (fun M27 => ?_)
  refine qv_iinc (pc := 195) (v := 6) (lv1 := [(1, .int 6), (0, .ref (X.2.2.2 + b))]) g dX10_init_195 rfl rfl (by decide) rfl ?_
  refine qv_goto (pc := 198) (tgt := 182) g dX10_init_198 (by decide) ?_
  refine qv_iload_n (pc := 182) g dX10_init_182 rfl rfl ?_
  refine qv_bipush (v := 7) (pc := 183) g dX10_init_183 (by decide) ?_
  refine qv_geF (pc := 185) (tgt := 201) g dX10_init_185 (by decide) (by decide) ?_
  refine qv_aload_n (pc := 188) g dX10_init_188 rfl rfl ?_
  refine qv_get1 (pc := 189) (r := b + 4) g fw_RX10_21 (by decide) (qv_at hb (k := 0) rfl) rfl dX10_init_189 ?_
  refine qv_iload_n (pc := 192) g dX10_init_192 rfl rfl ?_
  refine qv_iconst (v := 1) (pc := 193) g dX10_init_193 (by decide) ?_
  refine qv_iast (pc := 194) (m := 0) g ⟨_, qv_at hb (k := 4) rfl⟩ dX10_init_194 (fun M28 => ?_)
  refine qv_iinc (pc := 195) (v := 7) (lv1 := [(1, .int 7), (0, .ref (X.2.2.2 + b))]) g dX10_init_195 rfl rfl (by decide) rfl ?_
  refine qv_goto (pc := 198) (tgt := 182) g dX10_init_198 (by decide) ?_
  refine qv_iload_n (pc := 182) g dX10_init_182 rfl rfl ?_
  refine qv_bipush (v := 7) (pc := 183) g dX10_init_183 (by decide) ?_
  refine qv_geT (pc := 185) (tgt := 201) g dX10_init_185 (by decide) (by decide) ?_
  refine qv_aload_n (pc := 201) g dX10_init_201 rfl rfl ?_
  refine qv_bipush (v := 14) (pc := 202) g dX10_init_202 (by decide) ?_
  refine qv_iconst (v := 0) (pc := 204) g dX10_init_204 (by decide) ?_
  refine qv_iconst (v := 0) (pc := 205) g dX10_init_205 (by decide) ?_
  refine qv_lconst (v := 1) (pc := 206) g dX10_init_206 (by decide) ?_
  have ht : qv_is (0 + 1) (T0 ++ [(10, 29, [some (some (b + 1)), some (some (b + 2)), some (some (b + 3)), some (some (b + 4)), some (some (b + 5)), some (some (b + 6)), some (some (b + 7)), some (some (b + 8)), some (some (b + 9)), none, some (some (b + 10)), some (some (b + 11)), some (some (b + 12)), some (some (b + 13)), none, some (some (b + 14)), some (some (b + 15)), some (some (b + 16)), none, some (some (b + 17)), some (some (b + 18)), some (some (b + 19)), none, some (some (b + 20)), none, none, none, none, some (some (b + 21))]), (21, 340, []), (21, 3264, []), (21, 68, []), (20, 7, []), (20, 7, []), (20, 180, []), (20, 3, []), (20, 180, []), (20, 3, []), (21, 9, []), (21, 9, []), (20, 1344, []), (20, 1344, []), (20, 192, []), (20, 192, []), (20, 600, []), (20, 480, []), (20, 8, []), (20, 8, []), (20, 80, []), (20, 120, [])]) 10 29 b := ⟨_, qv_at hb (k := 0) rfl, Or.inr (Or.inr ⟨rfl, fun k hk => by
    match k, hk with
    | 0, _ => exact ⟨b + 1, rfl, ⟨_, qv_at hb (k := 1) rfl⟩⟩
    | 1, _ => exact ⟨b + 2, rfl, ⟨_, qv_at hb (k := 2) rfl⟩⟩
    | 2, _ => exact ⟨b + 3, rfl, ⟨_, qv_at hb (k := 3) rfl⟩⟩
    | 3, _ => exact ⟨b + 4, rfl, ⟨_, qv_at hb (k := 4) rfl⟩⟩
    | 4, _ => exact ⟨b + 5, rfl, ⟨_, qv_at hb (k := 5) rfl⟩⟩
    | 5, _ => exact ⟨b + 6, rfl, ⟨_, qv_at hb (k := 6) rfl⟩⟩
    | 6, _ => exact ⟨b + 7, rfl, ⟨_, qv_at hb (k := 7) rfl⟩⟩
    | 7, _ => exact ⟨b + 8, rfl, ⟨_, qv_at hb (k := 8) rfl⟩⟩
    | 8, _ => exact ⟨b + 9, rfl, ⟨_, qv_at hb (k := 9) rfl⟩⟩
    | 9, _ => exact rfl
    | 10, _ => exact ⟨b + 10, rfl, ⟨_, qv_at hb (k := 10) rfl⟩⟩
    | 11, _ => exact ⟨b + 11, rfl, ⟨_, qv_at hb (k := 11) rfl⟩⟩
    | 12, _ => exact ⟨b + 12, rfl, ⟨_, qv_at hb (k := 12) rfl⟩⟩
    | 13, _ => exact ⟨b + 13, rfl, ⟨_, qv_at hb (k := 13) rfl⟩⟩
    | 14, _ => exact rfl
    | 15, _ => exact ⟨b + 14, rfl, ⟨_, qv_at hb (k := 14) rfl⟩⟩
    | 16, _ => exact ⟨b + 15, rfl, ⟨_, qv_at hb (k := 15) rfl⟩⟩
    | 17, _ => exact ⟨b + 16, rfl, ⟨_, qv_at hb (k := 16) rfl⟩⟩
    | 18, _ => exact rfl
    | 19, _ => exact ⟨b + 17, rfl, ⟨_, qv_at hb (k := 17) rfl⟩⟩
    | 20, _ => exact ⟨b + 18, rfl, ⟨_, qv_at hb (k := 18) rfl⟩⟩
    | 21, _ => exact ⟨b + 19, rfl, ⟨_, qv_at hb (k := 19) rfl⟩⟩
    | 22, _ => exact rfl
    | 23, _ => exact ⟨b + 20, rfl, ⟨_, qv_at hb (k := 20) rfl⟩⟩
    | 24, _ => exact rfl
    | 25, _ => exact rfl
    | 26, _ => exact rfl
    | 27, _ => exact rfl
    | 28, _ => exact ⟨b + 21, rfl, ⟨_, qv_at hb (k := 21) rfl⟩⟩
    | k + 29, hk => exact absurd hk (by show ¬ k + 29 < 29; omega)⟩)⟩
  refine qv_aV (qv_cv (pc := 207) g (c_X10_number (gl G) X (d + 4) (T0 ++ [(10, 29, [some (some (b + 1)), some (some (b + 2)), some (some (b + 3)), some (some (b + 4)), some (some (b + 5)), some (some (b + 6)), some (some (b + 7)), some (some (b + 8)), some (some (b + 9)), none, some (some (b + 10)), some (some (b + 11)), some (some (b + 12)), some (some (b + 13)), none, some (some (b + 14)), some (some (b + 15)), some (some (b + 16)), none, some (some (b + 17)), some (some (b + 18)), some (some (b + 19)), none, some (some (b + 20)), none, none, none, none, some (some (b + 21))]), (21, 340, []), (21, 3264, []), (21, 68, []), (20, 7, []), (20, 7, []), (20, 180, []), (20, 3, []), (20, 180, []), (20, 3, []), (21, 9, []), (21, 9, []), (20, 1344, []), (20, 1344, []), (20, 192, []), (20, 192, []), (20, 600, []), (20, 480, []), (20, 8, []), (20, 8, []), (20, 80, []), (20, 120, [])]) _ _ _ _ _ M28 ht) (qv_RC hRm (by omega) (by decide)) (qv_cC hRm (by decide) (by decide)) mw_X10_number lk_RX10_76 im_X10_number se_X10_number (by decide) rfl ht pd_X10_number rfl (Nat.le_of_ble_eq_true rfl) dX10_init_207) (fun M29 => ?_)
  refine qv_aload_n (pc := 210) g dX10_init_210 rfl rfl ?_
  refine qv_bipush (v := 14) (pc := 211) g dX10_init_211 (by decide) ?_
  refine qv_iconst (v := 3) (pc := 213) g dX10_init_213 (by decide) ?_
  refine qv_iconst (v := 0) (pc := 214) g dX10_init_214 (by decide) ?_
  refine qv_lconst (v := 1) (pc := 215) g dX10_init_215 (by decide) ?_
  refine qv_aV (qv_cv (pc := 216) g (c_X10_number (gl G) X (d + 4) (T0 ++ [(10, 29, [some (some (b + 1)), some (some (b + 2)), some (some (b + 3)), some (some (b + 4)), some (some (b + 5)), some (some (b + 6)), some (some (b + 7)), some (some (b + 8)), some (some (b + 9)), none, some (some (b + 10)), some (some (b + 11)), some (some (b + 12)), some (some (b + 13)), none, some (some (b + 14)), some (some (b + 15)), some (some (b + 16)), none, some (some (b + 17)), some (some (b + 18)), some (some (b + 19)), none, some (some (b + 20)), none, none, none, none, some (some (b + 21))]), (21, 340, []), (21, 3264, []), (21, 68, []), (20, 7, []), (20, 7, []), (20, 180, []), (20, 3, []), (20, 180, []), (20, 3, []), (21, 9, []), (21, 9, []), (20, 1344, []), (20, 1344, []), (20, 192, []), (20, 192, []), (20, 600, []), (20, 480, []), (20, 8, []), (20, 8, []), (20, 80, []), (20, 120, [])]) _ _ _ _ _ M29 ht) (qv_RC hRm (by omega) (by decide)) (qv_cC hRm (by decide) (by decide)) mw_X10_number lk_RX10_76 im_X10_number se_X10_number (by decide) rfl ht pd_X10_number rfl (Nat.le_of_ble_eq_true rfl) dX10_init_216) (fun M30 => ?_)
  refine qv_aload_n (pc := 219) g dX10_init_219 rfl rfl ?_
  refine qv_aV (qv_cv (pc := 220) g (c_X10_gates (gl G) X (d + 3) (T0 ++ [(10, 29, [some (some (b + 1)), some (some (b + 2)), some (some (b + 3)), some (some (b + 4)), some (some (b + 5)), some (some (b + 6)), some (some (b + 7)), some (some (b + 8)), some (some (b + 9)), none, some (some (b + 10)), some (some (b + 11)), some (some (b + 12)), some (some (b + 13)), none, some (some (b + 14)), some (some (b + 15)), some (some (b + 16)), none, some (some (b + 17)), some (some (b + 18)), some (some (b + 19)), none, some (some (b + 20)), none, none, none, none, some (some (b + 21))]), (21, 340, []), (21, 3264, []), (21, 68, []), (20, 7, []), (20, 7, []), (20, 180, []), (20, 3, []), (20, 180, []), (20, 3, []), (21, 9, []), (21, 9, []), (20, 1344, []), (20, 1344, []), (20, 192, []), (20, 192, []), (20, 600, []), (20, 480, []), (20, 8, []), (20, 8, []), (20, 80, []), (20, 120, [])]) _ M30 ht) (qv_RC hRm (by omega) (by decide)) (qv_cC hRm (by decide) (by decide)) mw_X10_gates lk_RX10_80 im_X10_gates se_X10_gates (by decide) rfl ht pd_X10_gates rfl (Nat.le_of_ble_eq_true rfl) dX10_init_220) (fun M31 => ?_)
  refine qv_iconst (v := 0) (pc := 223) g dX10_init_223 (by decide) ?_
  refine qv_istore_n (pc := 224) (lv1 := [(1, .int 0), (0, .ref (X.2.2.2 + b))]) g dX10_init_224 rfl (by decide) rfl ?_
  refine qv_iload_n (pc := 225) g dX10_init_225 rfl rfl ?_
  refine qv_iconst (v := 4) (pc := 226) g dX10_init_226 (by decide) ?_
  refine qv_geF (pc := 227) (tgt := 243) g dX10_init_227 (by decide) (by decide) ?_
  refine qv_aload_n (pc := 230) g dX10_init_230 rfl rfl ?_
  refine qv_bipush (v := 14) (pc := 231) g dX10_init_231 (by decide) ?_
  refine qv_iload_n (pc := 233) g dX10_init_233 rfl rfl ?_
  refine qv_aV (qv_cv (pc := 234) g (c_X10_copies (gl G) X (d + 4) (T0 ++ [(10, 29, [some (some (b + 1)), some (some (b + 2)), some (some (b + 3)), some (some (b + 4)), some (some (b + 5)), some (some (b + 6)), some (some (b + 7)), some (some (b + 8)), some (some (b + 9)), none, some (some (b + 10)), some (some (b + 11)), some (some (b + 12)), some (some (b + 13)), none, some (some (b + 14)), some (some (b + 15)), some (some (b + 16)), none, some (some (b + 17)), some (some (b + 18)), some (some (b + 19)), none, some (some (b + 20)), none, none, none, none, some (some (b + 21))]), (21, 340, []), (21, 3264, []), (21, 68, []), (20, 7, []), (20, 7, []), (20, 180, []), (20, 3, []), (20, 180, []), (20, 3, []), (21, 9, []), (21, 9, []), (20, 1344, []), (20, 1344, []), (20, 192, []), (20, 192, []), (20, 600, []), (20, 480, []), (20, 8, []), (20, 8, []), (20, 80, []), (20, 120, [])]) _ _ _ M31 ht) (qv_RC hRm (by omega) (by decide)) (qv_cC hRm (by decide) (by decide)) mw_X10_copies lk_RX10_83 im_X10_copies se_X10_copies (by decide) rfl ht pd_X10_copies rfl (Nat.le_of_ble_eq_true rfl) dX10_init_234) (fun M32 => ?_)
  refine qv_iinc (pc := 237) (v := 1) (lv1 := [(1, .int 1), (0, .ref (X.2.2.2 + b))]) g dX10_init_237 rfl rfl (by decide) rfl ?_
  refine qv_goto (pc := 240) (tgt := 225) g dX10_init_240 (by decide) ?_
  refine qv_iload_n (pc := 225) g dX10_init_225 rfl rfl ?_
  refine qv_iconst (v := 4) (pc := 226) g dX10_init_226 (by decide) ?_
  refine qv_geF (pc := 227) (tgt := 243) g dX10_init_227 (by decide) (by decide) ?_
  refine qv_aload_n (pc := 230) g dX10_init_230 rfl rfl ?_
  refine qv_bipush (v := 14) (pc := 231) g dX10_init_231 (by decide) ?_
  refine qv_iload_n (pc := 233) g dX10_init_233 rfl rfl ?_
  refine qv_aV (qv_cv (pc := 234) g (c_X10_copies (gl G) X (d + 4) (T0 ++ [(10, 29, [some (some (b + 1)), some (some (b + 2)), some (some (b + 3)), some (some (b + 4)), some (some (b + 5)), some (some (b + 6)), some (some (b + 7)), some (some (b + 8)), some (some (b + 9)), none, some (some (b + 10)), some (some (b + 11)), some (some (b + 12)), some (some (b + 13)), none, some (some (b + 14)), some (some (b + 15)), some (some (b + 16)), none, some (some (b + 17)), some (some (b + 18)), some (some (b + 19)), none, some (some (b + 20)), none, none, none, none, some (some (b + 21))]), (21, 340, []), (21, 3264, []), (21, 68, []), (20, 7, []), (20, 7, []), (20, 180, []), (20, 3, []), (20, 180, []), (20, 3, []), (21, 9, []), (21, 9, []), (20, 1344, []), (20, 1344, []), (20, 192, []), (20, 192, []), (20, 600, []), (20, 480, []), (20, 8, []), (20, 8, []), (20, 80, []), (20, 120, [])]) _ _ _ M32 ht) (qv_RC hRm (by omega) (by decide)) (qv_cC hRm (by decide) (by decide)) mw_X10_copies lk_RX10_83 im_X10_copies se_X10_copies (by decide) rfl ht pd_X10_copies rfl (Nat.le_of_ble_eq_true rfl) dX10_init_234) (fun M33 => ?_)
  refine qv_iinc (pc := 237) (v := 2) (lv1 := [(1, .int 2), (0, .ref (X.2.2.2 + b))]) g dX10_init_237 rfl rfl (by decide) rfl ?_
  refine qv_goto (pc := 240) (tgt := 225) g dX10_init_240 (by decide) ?_
  refine qv_iload_n (pc := 225) g dX10_init_225 rfl rfl ?_
  refine qv_iconst (v := 4) (pc := 226) g dX10_init_226 (by decide) ?_
  refine qv_geF (pc := 227) (tgt := 243) g dX10_init_227 (by decide) (by decide) ?_
  refine qv_aload_n (pc := 230) g dX10_init_230 rfl rfl ?_
  refine qv_bipush (v := 14) (pc := 231) g dX10_init_231 (by decide) ?_
  refine qv_iload_n (pc := 233) g dX10_init_233 rfl rfl ?_
  refine qv_aV (qv_cv (pc := 234) g (c_X10_copies (gl G) X (d + 4) (T0 ++ [(10, 29, [some (some (b + 1)), some (some (b + 2)), some (some (b + 3)), some (some (b + 4)), some (some (b + 5)), some (some (b + 6)), some (some (b + 7)), some (some (b + 8)), some (some (b + 9)), none, some (some (b + 10)), some (some (b + 11)), some (some (b + 12)), some (some (b + 13)), none, some (some (b + 14)), some (some (b + 15)), some (some (b + 16)), none, some (some (b + 17)), some (some (b + 18)), some (some (b + 19)), none, some (some (b + 20)), none, none, none, none, some (some (b + 21))]), (21, 340, []), (21, 3264, []), (21, 68, []), (20, 7, []), (20, 7, []), (20, 180, []), (20, 3, []), (20, 180, []), (20, 3, []), (21, 9, []), (21, 9, []), (20, 1344, []), (20, 1344, []), (20, 192, []), (20, 192, []), (20, 600, []), (20, 480, []), (20, 8, []), (20, 8, []), (20, 80, []), (20, 120, [])]) _ _ _ M33 ht) (qv_RC hRm (by omega) (by decide)) (qv_cC hRm (by decide) (by decide)) mw_X10_copies lk_RX10_83 im_X10_copies se_X10_copies (by decide) rfl ht pd_X10_copies rfl (Nat.le_of_ble_eq_true rfl) dX10_init_234) (fun M34 => ?_)
  refine qv_iinc (pc := 237) (v := 3) (lv1 := [(1, .int 3), (0, .ref (X.2.2.2 + b))]) g dX10_init_237 rfl rfl (by decide) rfl ?_
  refine qv_goto (pc := 240) (tgt := 225) g dX10_init_240 (by decide) ?_
  refine qv_iload_n (pc := 225) g dX10_init_225 rfl rfl ?_
  refine qv_iconst (v := 4) (pc := 226) g dX10_init_226 (by decide) ?_
  refine qv_geF (pc := 227) (tgt := 243) g dX10_init_227 (by decide) (by decide) ?_
  refine qv_aload_n (pc := 230) g dX10_init_230 rfl rfl ?_
  refine qv_bipush (v := 14) (pc := 231) g dX10_init_231 (by decide) ?_
  refine qv_iload_n (pc := 233) g dX10_init_233 rfl rfl ?_
  refine qv_aV (qv_cv (pc := 234) g (c_X10_copies (gl G) X (d + 4) (T0 ++ [(10, 29, [some (some (b + 1)), some (some (b + 2)), some (some (b + 3)), some (some (b + 4)), some (some (b + 5)), some (some (b + 6)), some (some (b + 7)), some (some (b + 8)), some (some (b + 9)), none, some (some (b + 10)), some (some (b + 11)), some (some (b + 12)), some (some (b + 13)), none, some (some (b + 14)), some (some (b + 15)), some (some (b + 16)), none, some (some (b + 17)), some (some (b + 18)), some (some (b + 19)), none, some (some (b + 20)), none, none, none, none, some (some (b + 21))]), (21, 340, []), (21, 3264, []), (21, 68, []), (20, 7, []), (20, 7, []), (20, 180, []), (20, 3, []), (20, 180, []), (20, 3, []), (21, 9, []), (21, 9, []), (20, 1344, []), (20, 1344, []), (20, 192, []), (20, 192, []), (20, 600, []), (20, 480, []), (20, 8, []), (20, 8, []), (20, 80, []), (20, 120, [])]) _ _ _ M34 ht) (qv_RC hRm (by omega) (by decide)) (qv_cC hRm (by decide) (by decide)) mw_X10_copies lk_RX10_83 im_X10_copies se_X10_copies (by decide) rfl ht pd_X10_copies rfl (Nat.le_of_ble_eq_true rfl) dX10_init_234) (fun M35 => ?_)
  refine qv_iinc (pc := 237) (v := 4) (lv1 := [(1, .int 4), (0, .ref (X.2.2.2 + b))]) g dX10_init_237 rfl rfl (by decide) rfl ?_
  refine qv_goto (pc := 240) (tgt := 225) g dX10_init_240 (by decide) ?_
  refine qv_iload_n (pc := 225) g dX10_init_225 rfl rfl ?_
  refine qv_iconst (v := 4) (pc := 226) g dX10_init_226 (by decide) ?_
  refine qv_geT (pc := 227) (tgt := 243) g dX10_init_227 (by decide) (by decide) ?_
  refine qv_aload_n (pc := 243) g dX10_init_243 rfl rfl ?_
  refine qv_aV (qv_cv (pc := 244) g (c_X10_walks (gl G) X d (T0 ++ [(10, 29, [some (some (b + 1)), some (some (b + 2)), some (some (b + 3)), some (some (b + 4)), some (some (b + 5)), some (some (b + 6)), some (some (b + 7)), some (some (b + 8)), some (some (b + 9)), none, some (some (b + 10)), some (some (b + 11)), some (some (b + 12)), some (some (b + 13)), none, some (some (b + 14)), some (some (b + 15)), some (some (b + 16)), none, some (some (b + 17)), some (some (b + 18)), some (some (b + 19)), none, some (some (b + 20)), none, none, none, none, some (some (b + 21))]), (21, 340, []), (21, 3264, []), (21, 68, []), (20, 7, []), (20, 7, []), (20, 180, []), (20, 3, []), (20, 180, []), (20, 3, []), (21, 9, []), (21, 9, []), (20, 1344, []), (20, 1344, []), (20, 192, []), (20, 192, []), (20, 600, []), (20, 480, []), (20, 8, []), (20, 8, []), (20, 80, []), (20, 120, [])]) _ M35 ht) (qv_RC hRm (by omega) (by decide)) (qv_cC hRm (by decide) (by decide)) mw_X10_walks lk_RX10_87 im_X10_walks se_X10_walks (by decide) rfl ht pd_X10_walks rfl (Nat.le_of_ble_eq_true rfl) dX10_init_244) (fun M36 => ?_)
  exact qv_vret (pc := 247) g hr rfl dX10_init_247

