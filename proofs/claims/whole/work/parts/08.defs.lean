noncomputable def b_X7_clearParts_2 (t : Nat) (T : List qv_Ent) (k2 : qv_Mem → Option qv_Mem) : (Int32 → qv_Mem → Option qv_Mem) → Int32 → qv_Mem → Option qv_Mem := fun r5 v3 M4 =>
 (if 16 ≤ v3 then
 k2 M4
 else
 qv_stL 16 (qv_rf T t 0) v3 0 M4 (fun M6 =>
 r5 (v3 + 1) M6))
noncomputable def f_X7_clearParts (T : List qv_Ent) (t : Nat) (M : qv_Mem) : Option qv_Mem :=
 qv_jn (fun (M1 : qv_Mem) =>
 some M1) (fun k2 =>
 qv_lp2 (b_X7_clearParts_2 t T k2) qv_N 0 M)
noncomputable def f_X7_placeOf (p0 : Int32) (p1 : Int32) : Option Int32 :=
 some (((p0 * 2) + p1) * 4)
noncomputable def f_X7_makeUnit (T : List qv_Ent) (t : Nat) (M : qv_Mem) : Option qv_Mem :=
 qv_bo (f_X7_clearParts T t M) (fun M1 =>
 qv_bo (f_X7_placeOf 0 0) (fun v2 =>
 qv_stL 16 (qv_rf T t 0) v2 1 M1 (fun M3 =>
 qv_bo (f_X7_placeOf 1 1) (fun v4 =>
 qv_stL 16 (qv_rf T t 0) v4 1 M3 (fun M5 =>
 qv_pS t 1 0 M5 (fun M6 =>
 some M6))))))
noncomputable def f_X9_isBelow (p0 : Int32) (p1 : Int32) : Option Int32 :=
 (if p0 < 0 then
 some 0
 else
 (if p1 ≤ p0 then
 some 0
 else
 some 1))
noncomputable def f_X9_isRegister (p0 : Int32) : Option Int32 :=
 qv_bo (f_X9_isBelow p0 4) (fun v1 =>
 qv_gd (qv_01 v1) (some v1))
noncomputable def f_X9_one (T : List qv_Ent) (t : Nat) (p1 : Int32) (M : qv_Mem) : Option (Int32 × qv_Mem) :=
 qv_bo (f_X9_isRegister p1) (fun v1 =>
 (if v1 = 0 then
 some ((-1), M)
 else
 qv_gd (qv_inb p1 4) (
 qv_gS (qv_rf T (qv_rf T (qv_rf T t 0) 0) p1.toNatClampNeg) 1 M (fun v3 =>
 qv_gd (qv_inb p1 4) (
 qv_bo (f_X7_makeUnit T (qv_rf T (qv_rf T (qv_rf T t 0) 0) p1.toNatClampNeg) M) (fun M5 =>
 some (v3, M5)))))))
noncomputable def f_X9_isGate (p0 : Int32) : Option Int32 :=
 qv_bo (f_X9_isBelow p0 7) (fun v1 =>
 qv_gd (qv_01 v1) (some v1))
noncomputable def f_X7_makeCopy (T : List qv_Ent) (t : Nat) (t1 : Nat) (M : qv_Mem) : Option qv_Mem :=
 qv_cc 16 0 16 0 16 (qv_jn (qv_cpL M (qv_rf T t1 0) (qv_rf T t 0) (0 : Int32).toNatClampNeg (0 : Int32).toNatClampNeg (16 : Int32).toNatClampNeg) fun M1 =>
 qv_gS t1 1 M1 (fun v2 =>
 qv_pS t 1 v2 M1 (fun M3 =>
 some M3)))
noncomputable def b_X7_addAndSubtract_2 (t : Nat) (p1 : Int32) (p2 : Int32) (T : List qv_Ent) (k2 : qv_Mem → Option qv_Mem) : (Int32 → qv_Mem → Option qv_Mem) → Int32 → qv_Mem → Option qv_Mem := fun r5 v3 M4 =>
 (if 4 ≤ v3 then
 k2 M4
 else
 qv_ldL 16 (qv_rf T t 0) (p1 + v3) M4 (fun v6 =>
 qv_ldL 16 (qv_rf T t 0) (p2 + v3) M4 (fun v7 =>
 qv_stL 16 (qv_rf T t 0) (p1 + v3) (v6 + v7) M4 (fun M8 =>
 qv_stL 16 (qv_rf T t 0) (p2 + v3) (v6 - v7) M8 (fun M9 =>
 r5 (v3 + 1) M9)))))
noncomputable def f_X7_addAndSubtract (T : List qv_Ent) (t : Nat) (p1 : Int32) (p2 : Int32) (M : qv_Mem) : Option qv_Mem :=
 qv_jn (fun (M1 : qv_Mem) =>
 some M1) (fun k2 =>
 qv_lp2 (b_X7_addAndSubtract_2 t p1 p2 T k2) qv_N 0 M)
noncomputable def b_X7_rotate_2 (t : Nat) (p1 : Int32) (p2 : Int32) (T : List qv_Ent) (k2 : qv_Mem → Option qv_Mem) : (Int32 → qv_Mem → Option qv_Mem) → Int32 → qv_Mem → Option qv_Mem := fun r5 v3 M4 =>
 (if p2 ≤ v3 then
 k2 M4
 else
 qv_ldL 16 (qv_rf T t 0) (p1 + 3) M4 (fun v6 =>
 qv_ldL 16 (qv_rf T t 0) (p1 + 2) M4 (fun v7 =>
 qv_stL 16 (qv_rf T t 0) (p1 + 3) v7 M4 (fun M8 =>
 qv_ldL 16 (qv_rf T t 0) (p1 + 1) M8 (fun v9 =>
 qv_stL 16 (qv_rf T t 0) (p1 + 2) v9 M8 (fun M10 =>
 qv_ldL 16 (qv_rf T t 0) p1 M10 (fun v11 =>
 qv_stL 16 (qv_rf T t 0) (p1 + 1) v11 M10 (fun M12 =>
 qv_stL 16 (qv_rf T t 0) p1 (-v6) M12 (fun M13 =>
 r5 (v3 + 1) M13)))))))))
noncomputable def f_X7_rotate (T : List qv_Ent) (t : Nat) (p1 : Int32) (p2 : Int32) (M : qv_Mem) : Option qv_Mem :=
 qv_jn (fun (M1 : qv_Mem) =>
 some M1) (fun k2 =>
 qv_lp2 (b_X7_rotate_2 t p1 p2 T k2) qv_N 0 M)
noncomputable def b_X7_exchange_2 (t : Nat) (p1 : Int32) (p2 : Int32) (T : List qv_Ent) (k2 : qv_Mem → Option qv_Mem) : (Int32 → qv_Mem → Option qv_Mem) → Int32 → qv_Mem → Option qv_Mem := fun r5 v3 M4 =>
 (if 4 ≤ v3 then
 k2 M4
 else
 qv_ldL 16 (qv_rf T t 0) (p1 + v3) M4 (fun v6 =>
 qv_ldL 16 (qv_rf T t 0) (p2 + v3) M4 (fun v7 =>
 qv_stL 16 (qv_rf T t 0) (p1 + v3) v7 M4 (fun M8 =>
 qv_stL 16 (qv_rf T t 0) (p2 + v3) v6 M8 (fun M9 =>
 r5 (v3 + 1) M9)))))
noncomputable def f_X7_exchange (T : List qv_Ent) (t : Nat) (p1 : Int32) (p2 : Int32) (M : qv_Mem) : Option qv_Mem :=
 qv_jn (fun (M1 : qv_Mem) =>
 some M1) (fun k2 =>
 qv_lp2 (b_X7_exchange_2 t p1 p2 T k2) qv_N 0 M)
noncomputable def f_X7_applyToPair (T : List qv_Ent) (t : Nat) (p1 : Int32) (p2 : Int32) (p3 : Int32) (M : qv_Mem) : Option qv_Mem :=
 (if p1 = 0 then
 qv_bo (f_X7_addAndSubtract T t p2 p3 M) (fun M1 =>
 some M1)
 else
 (if p1 = 1 then
 qv_bo (f_X7_rotate T t p3 1 M) (fun M4 =>
 some M4)
 else
 (if p1 = 2 then
 qv_bo (f_X7_rotate T t p3 2 M) (fun M7 =>
 some M7)
 else
 (if p1 = 3 then
 qv_bo (f_X7_exchange T t p2 p3 M) (fun M10 =>
 some M10)
 else
 (if p1 = 4 then
 qv_bo (f_X7_rotate T t p3 4 M) (fun M13 =>
 some M13)
 else
 (if p1 = 5 then
 qv_bo (f_X7_rotate T t p2 1 M) (fun M16 =>
 qv_bo (f_X7_rotate T t p3 1 M16) (fun M17 =>
 some M17))
 else
 (if p1 = 6 then
 qv_bo (f_X7_rotate T t p3 7 M) (fun M20 =>
 some M20)
 else
 some M)))))))
noncomputable def b_X7_isMultipleOfR_2 (t : Nat) (M : qv_Mem) (T : List qv_Ent) (k1 : Unit → Option Int32) : (Int32 → Option Int32) → Int32 → Option Int32 := fun r3 v2 =>
 (if 16 ≤ v2 then
 k1 ()
 else
 qv_ldL 16 (qv_rf T t 0) v2 M (fun v4 =>
 qv_ldL 16 (qv_rf T t 0) (v2 + 2) M (fun v5 =>
 qv_jn (fun (v6 : Int32) =>
 (if v6 = 0 then
 r3 (v2 + 4)
 else
 some 0)) (fun k7 =>
 (if (lg_cmp ((v4 + v5) &&& 1) 0) = 0 then
 qv_ldL 16 (qv_rf T t 0) (v2 + 1) M (fun v8 =>
 qv_ldL 16 (qv_rf T t 0) (v2 + 3) M (fun v9 =>
 (if (lg_cmp ((v8 + v9) &&& 1) 0) = 0 then
 k7 0
 else
 k7 1)))
 else
 k7 1)))))
noncomputable def f_X7_isMultipleOfR (T : List qv_Ent) (t : Nat) (M : qv_Mem) : Option Int32 :=
 qv_jn (fun (_ : Unit) =>
 some 1) (fun k1 =>
 qv_lp1 (b_X7_isMultipleOfR_2 t M T k1) qv_N 0)
noncomputable def f_X7_divideByR (T : List qv_Ent) (t : Nat) (p1 : Int32) (M : qv_Mem) : Option qv_Mem :=
 qv_ldL 16 (qv_rf T t 0) p1 M (fun v1 =>
 qv_ldL 16 (qv_rf T t 0) (p1 + 1) M (fun v2 =>
 qv_ldL 16 (qv_rf T t 0) (p1 + 2) M (fun v3 =>
 qv_ldL 16 (qv_rf T t 0) (p1 + 3) M (fun v4 =>
 qv_stL 16 (qv_rf T t 0) p1 ((v2 - v4) / 2) M (fun M5 =>
 qv_stL 16 (qv_rf T t 0) (p1 + 1) ((v1 + v3) / 2) M5 (fun M6 =>
 qv_stL 16 (qv_rf T t 0) (p1 + 2) ((v2 + v4) / 2) M6 (fun M7 =>
 qv_stL 16 (qv_rf T t 0) (p1 + 3) ((v3 - v1) / 2) M7 (fun M8 =>
 some M8))))))))
noncomputable def b_X7_lower_25 (t : Nat) (T : List qv_Ent) (k9 : qv_Mem → Option qv_Mem) : (Int32 → qv_Mem → Option qv_Mem) → Int32 → qv_Mem → Option qv_Mem := fun r14 v12 M13 =>
 (if 16 ≤ v12 then
 k9 M13
 else
 qv_bo (f_X7_divideByR T t v12 M13) (fun M15 =>
 r14 (v12 + 4) M15))
noncomputable def b_X7_lower_2 (t : Nat) (T : List qv_Ent) (k2 : qv_Mem → Option qv_Mem) : (Int32 → qv_Mem → Option qv_Mem) → Int32 → qv_Mem → Option qv_Mem := fun r5 v3 M4 =>
 (if 1000 ≤ v3 then
 k2 M4
 else
 qv_gS t 1 M4 (fun v6 =>
 (if v6 ≤ 0 then
 k2 M4
 else
 qv_bo (f_X7_isMultipleOfR T t M4) (fun v7 =>
 (if v7 = 0 then
 k2 M4
 else
 qv_jn (fun (M8 : qv_Mem) =>
 qv_gS t 1 M8 (fun v10 =>
 qv_pS t 1 (v10 - 1) M8 (fun M11 =>
 r5 (v3 + 1) M11))) (fun k9 =>
 qv_lp2 (b_X7_lower_25 t T k9) qv_N 0 M4))))))
noncomputable def f_X7_lower (T : List qv_Ent) (t : Nat) (M : qv_Mem) : Option qv_Mem :=
 qv_jn (fun (M1 : qv_Mem) =>
 some M1) (fun k2 =>
 qv_lp2 (b_X7_lower_2 t T k2) qv_N 0 M)
noncomputable def f_X7_applyBehind (T : List qv_Ent) (t : Nat) (p1 : Int32) (M : qv_Mem) : Option qv_Mem :=
 qv_bo (f_X7_placeOf 0 0) (fun v1 =>
 qv_bo (f_X7_placeOf 0 1) (fun v2 =>
 qv_bo (f_X7_applyToPair T t p1 v1 v2 M) (fun M3 =>
 qv_bo (f_X7_placeOf 1 0) (fun v4 =>
 qv_bo (f_X7_placeOf 1 1) (fun v5 =>
 qv_bo (f_X7_applyToPair T t p1 v4 v5 M3) (fun M6 =>
 (if p1 = 0 then
 qv_gS t 1 M6 (fun v7 =>
 qv_pS t 1 (v7 + 1) M6 (fun M8 =>
 qv_bo (f_X7_lower T t M8) (fun M9 =>
 some M9)))
 else
 some M6)))))))
noncomputable def f_X9_settleRegister (T : List qv_Ent) (t : Nat) (p1 : Int32) (M : qv_Mem) : Option (Int32 × qv_Mem) :=
 qv_gS (qv_rf T t 10) 1 M (fun v1 =>
 (if v1 ≤ 40 then
 qv_gd (qv_inb p1 4) (
 qv_bo (f_X7_makeCopy T (qv_rf T (qv_rf T (qv_rf T t 0) 0) p1.toNatClampNeg) (qv_rf T t 10) M) (fun M3 =>
 qv_gS (qv_rf T t 10) 1 M3 (fun v4 =>
 some (v4, M3))))
 else
 some ((-5), M)))
noncomputable def f_X9_gate (T : List qv_Ent) (t : Nat) (p1 : Int32) (p2 : Int32) (M : qv_Mem) : Option (Int32 × qv_Mem) :=
 qv_bo (f_X9_isRegister p1) (fun v1 =>
 (if v1 = 0 then
 some ((-1), M)
 else
 qv_bo (f_X9_isGate p2) (fun v2 =>
 (if v2 = 0 then
 some ((-1), M)
 else
 qv_gd (qv_inb p1 4) (
 qv_bo (f_X7_makeCopy T (qv_rf T t 10) (qv_rf T (qv_rf T (qv_rf T t 0) 0) p1.toNatClampNeg) M) (fun M4 =>
 qv_bo (f_X7_applyBehind T (qv_rf T t 10) p2 M4) (fun M5 =>
 qv_bp (f_X9_settleRegister T t p1 M5) (fun v6 M7 =>
 some (v6, M7)))))))))
noncomputable def f_X7_applyAhead (T : List qv_Ent) (t : Nat) (p1 : Int32) (M : qv_Mem) : Option qv_Mem :=
 qv_bo (f_X7_placeOf 0 0) (fun v1 =>
 qv_bo (f_X7_placeOf 1 0) (fun v2 =>
 qv_bo (f_X7_applyToPair T t p1 v1 v2 M) (fun M3 =>
 qv_bo (f_X7_placeOf 0 1) (fun v4 =>
 qv_bo (f_X7_placeOf 1 1) (fun v5 =>
 qv_bo (f_X7_applyToPair T t p1 v4 v5 M3) (fun M6 =>
 (if p1 = 0 then
 qv_gS t 1 M6 (fun v7 =>
 qv_pS t 1 (v7 + 1) M6 (fun M8 =>
 qv_bo (f_X7_lower T t M8) (fun M9 =>
 some M9)))
 else
 some M6)))))))
noncomputable def f_X9_ahead (T : List qv_Ent) (t : Nat) (p1 : Int32) (p2 : Int32) (M : qv_Mem) : Option (Int32 × qv_Mem) :=
 qv_bo (f_X9_isRegister p1) (fun v1 =>
 (if v1 = 0 then
 some ((-1), M)
 else
 qv_bo (f_X9_isGate p2) (fun v2 =>
 (if v2 = 0 then
 some ((-1), M)
 else
 qv_gd (qv_inb p1 4) (
 qv_bo (f_X7_makeCopy T (qv_rf T t 10) (qv_rf T (qv_rf T (qv_rf T t 0) 0) p1.toNatClampNeg) M) (fun M4 =>
 qv_bo (f_X7_applyAhead T (qv_rf T t 10) p2 M4) (fun M5 =>
 qv_bp (f_X9_settleRegister T t p1 M5) (fun v6 M7 =>
 some (v6, M7)))))))))
noncomputable def f_X7_addProduct (T : List qv_Ent) (t : Nat) (p1 : Int32) (t2 : Nat) (p3 : Int32) (t4 : Nat) (p5 : Int32) (M : qv_Mem) : Option qv_Mem :=
 qv_ldL 16 t2 p3 M (fun v1 =>
 qv_ldL 16 t2 (p3 + 1) M (fun v2 =>
 qv_ldL 16 t2 (p3 + 2) M (fun v3 =>
 qv_ldL 16 t2 (p3 + 3) M (fun v4 =>
 qv_ldL 16 t4 p5 M (fun v5 =>
 qv_ldL 16 t4 (p5 + 1) M (fun v6 =>
 qv_ldL 16 t4 (p5 + 2) M (fun v7 =>
 qv_ldL 16 t4 (p5 + 3) M (fun v8 =>
 qv_ldL 16 (qv_rf T t 0) p1 M (fun v9 =>
 qv_stL 16 (qv_rf T t 0) p1 (v9 + ((((v1 * v5) - (v2 * v8)) - (v3 * v7)) - (v4 * v6))) M (fun M10 =>
 qv_ldL 16 (qv_rf T t 0) (p1 + 1) M10 (fun v11 =>
 qv_stL 16 (qv_rf T t 0) (p1 + 1) (v11 + ((((v1 * v6) + (v2 * v5)) - (v3 * v8)) - (v4 * v7))) M10 (fun M12 =>
 qv_ldL 16 (qv_rf T t 0) (p1 + 2) M12 (fun v13 =>
 qv_stL 16 (qv_rf T t 0) (p1 + 2) (v13 + ((((v1 * v7) + (v2 * v6)) + (v3 * v5)) - (v4 * v8))) M12 (fun M14 =>
 qv_ldL 16 (qv_rf T t 0) (p1 + 3) M14 (fun v15 =>
 qv_stL 16 (qv_rf T t 0) (p1 + 3) (v15 + ((((v1 * v8) + (v2 * v7)) + (v3 * v6)) + (v4 * v5))) M14 (fun M16 =>
 some M16))))))))))))))))
noncomputable def b_X7_makeProduct_14 (t : Nat) (t1 : Nat) (t2 : Nat) (T : List qv_Ent) (v7 : Int32) (k11 : qv_Mem → Option qv_Mem) : (Int32 → qv_Mem → Option qv_Mem) → Int32 → qv_Mem → Option qv_Mem := fun r14 v12 M13 =>
 (if 2 ≤ v12 then
 k11 M13
 else
 qv_bo (f_X7_placeOf v7 v12) (fun v15 =>
 qv_bo (f_X7_placeOf v7 0) (fun v16 =>
 qv_bo (f_X7_placeOf 0 v12) (fun v17 =>
 qv_bo (f_X7_addProduct T t v15 (qv_rf T t1 0) v16 (qv_rf T t2 0) v17 M13) (fun M18 =>
 qv_bo (f_X7_placeOf v7 1) (fun v19 =>
 qv_bo (f_X7_placeOf 1 v12) (fun v20 =>
 qv_bo (f_X7_addProduct T t v15 (qv_rf T t1 0) v19 (qv_rf T t2 0) v20 M18) (fun M21 =>
 r14 (v12 + 1) M21))))))))
noncomputable def b_X7_makeProduct_6 (t : Nat) (t1 : Nat) (t2 : Nat) (T : List qv_Ent) (k3 : qv_Mem → Option qv_Mem) : (Int32 → qv_Mem → Option qv_Mem) → Int32 → qv_Mem → Option qv_Mem := fun r9 v7 M8 =>
 (if 2 ≤ v7 then
 k3 M8
 else
 qv_jn (fun (M10 : qv_Mem) =>
 r9 (v7 + 1) M10) (fun k11 =>
 qv_lp2 (b_X7_makeProduct_14 t t1 t2 T v7 k11) qv_N 0 M8))
noncomputable def f_X7_makeProduct (T : List qv_Ent) (t : Nat) (t1 : Nat) (t2 : Nat) (M : qv_Mem) : Option qv_Mem :=
 qv_bo (f_X7_clearParts T t M) (fun M1 =>
 qv_jn (fun (M2 : qv_Mem) =>
 qv_gS t1 1 M2 (fun v4 =>
 qv_gS t2 1 M2 (fun v5 =>
 qv_pS t 1 (v4 + v5) M2 (fun M6 =>
 some M6)))) (fun k3 =>
 qv_lp2 (b_X7_makeProduct_6 t t1 t2 T k3) qv_N 0 M1))
noncomputable def f_X9_times (T : List qv_Ent) (t : Nat) (p1 : Int32) (p2 : Int32) (p3 : Int32) (M : qv_Mem) : Option (Int32 × qv_Mem) :=
 qv_bo (f_X9_isRegister p1) (fun v1 =>
 (if v1 = 0 then
 some ((-1), M)
 else
 qv_bo (f_X9_isRegister p2) (fun v2 =>
 (if v2 = 0 then
 some ((-1), M)
 else
 qv_bo (f_X9_isRegister p3) (fun v3 =>
 (if v3 = 0 then
 some ((-1), M)
 else
 qv_gd (qv_inb p2 4) (
 qv_gd (qv_inb p3 4) (
 qv_bo (f_X7_makeProduct T (qv_rf T t 10) (qv_rf T (qv_rf T (qv_rf T t 0) 0) p2.toNatClampNeg) (qv_rf T (qv_rf T (qv_rf T t 0) 0) p3.toNatClampNeg) M) (fun M6 =>
 qv_bo (f_X7_lower T (qv_rf T t 10) M6) (fun M7 =>
 qv_bp (f_X9_settleRegister T t p1 M7) (fun v8 M9 =>
 some (v8, M9))))))))))))
noncomputable def b_X7_makeTurned_9 (t : Nat) (t1 : Nat) (T : List qv_Ent) (v5 : Int32) (k9 : qv_Mem → Option qv_Mem) : (Int32 → qv_Mem → Option qv_Mem) → Int32 → qv_Mem → Option qv_Mem := fun r12 v10 M11 =>
 (if 2 ≤ v10 then
 k9 M11
 else
 qv_bo (f_X7_placeOf v5 v10) (fun v13 =>
 qv_bo (f_X7_placeOf v10 v5) (fun v14 =>
 qv_ldL 16 (qv_rf T t1 0) v14 M11 (fun v15 =>
 qv_stL 16 (qv_rf T t 0) v13 v15 M11 (fun M16 =>
 qv_ldL 16 (qv_rf T t1 0) (v14 + 3) M16 (fun v17 =>
 qv_stL 16 (qv_rf T t 0) (v13 + 1) (-v17) M16 (fun M18 =>
 qv_ldL 16 (qv_rf T t1 0) (v14 + 2) M18 (fun v19 =>
 qv_stL 16 (qv_rf T t 0) (v13 + 2) (-v19) M18 (fun M20 =>
 qv_ldL 16 (qv_rf T t1 0) (v14 + 1) M20 (fun v21 =>
 qv_stL 16 (qv_rf T t 0) (v13 + 3) (-v21) M20 (fun M22 =>
 r12 (v10 + 1) M22)))))))))))
noncomputable def b_X7_makeTurned_2 (t : Nat) (t1 : Nat) (T : List qv_Ent) (k2 : qv_Mem → Option qv_Mem) : (Int32 → qv_Mem → Option qv_Mem) → Int32 → qv_Mem → Option qv_Mem := fun r7 v5 M6 =>
 (if 2 ≤ v5 then
 k2 M6
 else
 qv_jn (fun (M8 : qv_Mem) =>
 r7 (v5 + 1) M8) (fun k9 =>
 qv_lp2 (b_X7_makeTurned_9 t t1 T v5 k9) qv_N 0 M6))
noncomputable def f_X7_makeTurned (T : List qv_Ent) (t : Nat) (t1 : Nat) (M : qv_Mem) : Option qv_Mem :=
 qv_jn (fun (M1 : qv_Mem) =>
 qv_gS t1 1 M1 (fun v3 =>
 qv_pS t 1 v3 M1 (fun M4 =>
 some M4))) (fun k2 =>
 qv_lp2 (b_X7_makeTurned_2 t t1 T k2) qv_N 0 M)
noncomputable def f_X9_turn (T : List qv_Ent) (t : Nat) (p1 : Int32) (M : qv_Mem) : Option (Int32 × qv_Mem) :=
 qv_bo (f_X9_isRegister p1) (fun v1 =>
 (if v1 = 0 then
 some ((-1), M)
 else
 qv_gd (qv_inb p1 4) (
 qv_bo (f_X7_makeTurned T (qv_rf T t 10) (qv_rf T (qv_rf T (qv_rf T t 0) 0) p1.toNatClampNeg) M) (fun M3 =>
 qv_bp (f_X9_settleRegister T t p1 M3) (fun v4 M5 =>
 some (v4, M5))))))
noncomputable def f_X9_part (T : List qv_Ent) (t : Nat) (p1 : Int32) (p2 : Int32) (p3 : Int32) (p4 : Int32) (M : qv_Mem) : Option Int64 :=
 qv_bo (f_X9_isRegister p1) (fun v1 =>
 qv_jn (fun (_ : Unit) =>
 some (-9223372036854775808)) (fun k2 =>
 (if v1 = 0 then
 k2 ()
 else
 qv_bo (f_X9_isBelow p2 2) (fun v3 =>
 (if v3 = 0 then
 k2 ()
 else
 qv_bo (f_X9_isBelow p3 2) (fun v4 =>
 (if v4 = 0 then
 k2 ()
 else
 qv_bo (f_X9_isBelow p4 4) (fun v5 =>
 (if v5 = 0 then
 k2 ()
 else
 qv_gd (qv_inb p1 4) (
 qv_bo (f_X7_placeOf p2 p3) (fun v7 =>
 qv_ldL 16 (qv_rf T (qv_rf T (qv_rf T (qv_rf T t 0) 0) p1.toNatClampNeg) 0) (v7 + p4) M (fun v8 =>
 some v8))))))))))))
noncomputable def f_X9_e (T : List qv_Ent) (t : Nat) (p1 : Int32) (M : qv_Mem) : Option Int32 :=
 qv_bo (f_X9_isRegister p1) (fun v1 =>
 (if v1 = 0 then
 some (-1)
 else
 qv_gd (qv_inb p1 4) (
 qv_gS (qv_rf T (qv_rf T (qv_rf T t 0) 0) p1.toNatClampNeg) 1 M (fun v3 =>
 some v3))))
noncomputable def b_X7_isSame_15 (t : Nat) (t1 : Nat) (M : qv_Mem) (T : List qv_Ent) (k3 : Unit → Option Int32) : (Int32 → Option Int32) → Int32 → Option Int32 := fun r5 v4 =>
 (if 16 ≤ v4 then
 k3 ()
 else
 qv_ldL 16 (qv_rf T t 0) v4 M (fun v6 =>
 qv_ldL 16 (qv_rf T t1 0) v4 M (fun v7 =>
 (if (lg_cmp v6 v7) = 0 then
 r5 (v4 + 1)
 else
 some 0))))
noncomputable def f_X7_isSame (T : List qv_Ent) (t : Nat) (t1 : Nat) (M : qv_Mem) : Option Int32 :=
 qv_gS t 1 M (fun v1 =>
 qv_gS t1 1 M (fun v2 =>
 (if v1 = v2 then
 qv_jn (fun (_ : Unit) =>
 some 1) (fun k3 =>
 qv_lp1 (b_X7_isSame_15 t t1 M T k3) qv_N 0)
 else
 some 0)))
noncomputable def b_X9_phase_34 (t : Nat) (p1 : Int32) (T : List qv_Ent) (k6 : qv_Mem → Option (Int32 × qv_Mem)) : (Int32 → qv_Mem → Option (Int32 × qv_Mem)) → Int32 → qv_Mem → Option (Int32 × qv_Mem) := fun r9 v7 M8 =>
 (if 8 ≤ v7 then
 k6 M8
 else
 qv_gd (qv_inb p1 4) (
 qv_bo (f_X7_isSame T (qv_rf T t 10) (qv_rf T (qv_rf T (qv_rf T t 0) 0) p1.toNatClampNeg) M8) (fun v11 =>
 (if v11 = 0 then
 qv_bo (f_X7_applyAhead T (qv_rf T t 10) 5 M8) (fun M12 =>
 r9 (v7 + 1) M12)
 else
 some (v7, M8)))))
noncomputable def f_X9_phase (T : List qv_Ent) (t : Nat) (p1 : Int32) (p2 : Int32) (M : qv_Mem) : Option (Int32 × qv_Mem) :=
 qv_bo (f_X9_isRegister p1) (fun v1 =>
 (if v1 = 0 then
 some ((-1), M)
 else
 qv_bo (f_X9_isRegister p2) (fun v2 =>
 (if v2 = 0 then
 some ((-1), M)
 else
 qv_gd (qv_inb p2 4) (
 qv_bo (f_X7_makeCopy T (qv_rf T t 10) (qv_rf T (qv_rf T (qv_rf T t 0) 0) p2.toNatClampNeg) M) (fun M4 =>
 qv_jn (fun (M5 : qv_Mem) =>
 some ((-2), M5)) (fun k6 =>
 qv_lp2 (b_X9_phase_34 t p1 T k6) qv_N 0 M4)))))))
noncomputable def f_X1_fillColumn (T : List qv_Ent) (t : Nat) (p1 : Int32) (M : qv_Mem) : Option qv_Mem :=
 qv_bo (f_X7_makeProduct T (qv_rf T t 5) (qv_rf T t 4) (qv_rf T t 3) M) (fun M1 =>
 qv_bo (f_X7_placeOf 0 1) (fun v2 =>
 qv_ldL 16 (qv_rf T (qv_rf T t 5) 0) v2 M1 (fun v3 =>
 qv_stL 9 (qv_rf T t 0) p1 (2 * v3) M1 (fun M4 =>
 qv_ldL 16 (qv_rf T (qv_rf T t 5) 0) (v2 + 1) M4 (fun v5 =>
 qv_ldL 16 (qv_rf T (qv_rf T t 5) 0) (v2 + 3) M4 (fun v6 =>
 qv_stL 9 (qv_rf T t 1) p1 (v5 - v6) M4 (fun M7 =>
 qv_ldL 16 (qv_rf T (qv_rf T t 5) 0) (v2 + 2) M7 (fun v8 =>
 qv_stL 9 (qv_rf T t 0) (3 + p1) ((-2) * v8) M7 (fun M9 =>
 qv_ldL 16 (qv_rf T (qv_rf T t 5) 0) (v2 + 1) M9 (fun v10 =>
 qv_ldL 16 (qv_rf T (qv_rf T t 5) 0) (v2 + 3) M9 (fun v11 =>
 qv_stL 9 (qv_rf T t 1) (3 + p1) (-(v10 + v11)) M9 (fun M12 =>
 qv_bo (f_X7_placeOf 0 0) (fun v13 =>
 qv_ldL 16 (qv_rf T (qv_rf T t 5) 0) v13 M12 (fun v14 =>
 qv_stL 9 (qv_rf T t 0) (6 + p1) (2 * v14) M12 (fun M15 =>
 qv_ldL 16 (qv_rf T (qv_rf T t 5) 0) (v13 + 1) M15 (fun v16 =>
 qv_stL 9 (qv_rf T t 1) (6 + p1) (2 * v16) M15 (fun M17 =>
 some M17)))))))))))))))))
noncomputable def b_X1_isEven_2 (t : Nat) (M : qv_Mem) (T : List qv_Ent) (k1 : Unit → Option Int32) : (Int32 → Option Int32) → Int32 → Option Int32 := fun r3 v2 =>
 (if 9 ≤ v2 then
 k1 ()
 else
 qv_ldL 9 (qv_rf T t 0) v2 M (fun v4 =>
 (if (lg_cmp (v4 &&& 1) 0) = 0 then
 r3 (v2 + 1)
 else
 some 0)))
noncomputable def f_X1_isEven (T : List qv_Ent) (t : Nat) (M : qv_Mem) : Option Int32 :=
 qv_jn (fun (_ : Unit) =>
 some 1) (fun k1 =>
 qv_lp1 (b_X1_isEven_2 t M T k1) qv_N 0)
noncomputable def b_X1_lower_25 (t : Nat) (T : List qv_Ent) (k9 : qv_Mem → Option qv_Mem) : (Int32 → qv_Mem → Option qv_Mem) → Int32 → qv_Mem → Option qv_Mem := fun r14 v12 M13 =>
 (if 9 ≤ v12 then
 k9 M13
 else
 qv_ldL 9 (qv_rf T t 0) v12 M13 (fun v15 =>
 qv_ldL 9 (qv_rf T t 1) v12 M13 (fun v16 =>
 qv_stL 9 (qv_rf T t 0) v12 v16 M13 (fun M17 =>
 qv_stL 9 (qv_rf T t 1) v12 (v15 / 2) M17 (fun M18 =>
 r14 (v12 + 1) M18)))))
noncomputable def b_X1_lower_2 (t : Nat) (T : List qv_Ent) (k2 : qv_Mem → Option qv_Mem) : (Int32 → qv_Mem → Option qv_Mem) → Int32 → qv_Mem → Option qv_Mem := fun r5 v3 M4 =>
 (if 1000 ≤ v3 then
 k2 M4
 else
 qv_gS t 2 M4 (fun v6 =>
 (if v6 ≤ 0 then
 k2 M4
 else
 qv_bo (f_X1_isEven T t M4) (fun v7 =>
 (if v7 = 0 then
 k2 M4
 else
 qv_jn (fun (M8 : qv_Mem) =>
 qv_gS t 2 M8 (fun v10 =>
 qv_pS t 2 (v10 - 1) M8 (fun M11 =>
 r5 (v3 + 1) M11))) (fun k9 =>
 qv_lp2 (b_X1_lower_25 t T k9) qv_N 0 M4))))))
noncomputable def f_X1_lower (T : List qv_Ent) (t : Nat) (M : qv_Mem) : Option qv_Mem :=
 qv_jn (fun (M1 : qv_Mem) =>
 some M1) (fun k2 =>
 qv_lp2 (b_X1_lower_2 t T k2) qv_N 0 M)
noncomputable def f_X1_makeOf (T : List qv_Ent) (t : Nat) (t1 : Nat) (M : qv_Mem) : Option qv_Mem :=
 qv_bo (f_X7_makeTurned T (qv_rf T t 3) t1 M) (fun M1 =>
 qv_bo (f_X7_makeCopy T (qv_rf T t 4) t1 M1) (fun M2 =>
 qv_bo (f_X7_applyBehind T (qv_rf T t 4) 3 M2) (fun M3 =>
 qv_bo (f_X1_fillColumn T t 0 M3) (fun M4 =>
 qv_bo (f_X7_applyBehind T (qv_rf T t 4) 4 M4) (fun M5 =>
 qv_bo (f_X7_applyBehind T (qv_rf T t 4) 5 M5) (fun M6 =>
 qv_bo (f_X7_applyBehind T (qv_rf T t 4) 5 M6) (fun M7 =>
 qv_bo (f_X1_fillColumn T t 1 M7) (fun M8 =>
 qv_bo (f_X7_makeCopy T (qv_rf T t 4) t1 M8) (fun M9 =>
 qv_bo (f_X7_applyBehind T (qv_rf T t 4) 4 M9) (fun M10 =>
 qv_bo (f_X1_fillColumn T t 2 M10) (fun M11 =>
 qv_gS t1 1 M11 (fun v12 =>
 qv_pS t 2 ((2 * v12) + 2) M11 (fun M13 =>
 qv_bo (f_X1_lower T t M13) (fun M14 =>
 some M14))))))))))))))
noncomputable def f_X9_channel (T : List qv_Ent) (t : Nat) (p1 : Int32) (p2 : Int32) (p3 : Int32) (p4 : Int32) (M : qv_Mem) : Option (Int64 × qv_Mem) :=
 qv_bo (f_X9_isRegister p1) (fun v1 =>
 qv_jn (fun (_ : Unit) =>
 some ((-9223372036854775808), M)) (fun k2 =>
 (if v1 = 0 then
 k2 ()
 else
 qv_bo (f_X9_isBelow p2 3) (fun v3 =>
 (if v3 = 0 then
 k2 ()
 else
 qv_bo (f_X9_isBelow p3 3) (fun v4 =>
 (if v4 = 0 then
 k2 ()
 else
 qv_bo (f_X9_isBelow p4 2) (fun v5 =>
 (if v5 = 0 then
 k2 ()
 else
 qv_gd (qv_inb p1 4) (
 qv_bo (f_X1_makeOf T (qv_rf T t 7) (qv_rf T (qv_rf T (qv_rf T t 0) 0) p1.toNatClampNeg) M) (fun M7 =>
 (if p4 = 0 then
 qv_ldL 9 (qv_rf T (qv_rf T t 7) 0) ((p2 * 3) + p3) M7 (fun v9 =>
 some (v9, M7))
 else
 qv_ldL 9 (qv_rf T (qv_rf T t 7) 1) ((p2 * 3) + p3) M7 (fun v8 =>
 some (v8, M7))))))))))))))
noncomputable def f_X9_count (T : List qv_Ent) (t : Nat) (p1 : Int32) (M : qv_Mem) : Option (Int32 × qv_Mem) :=
 qv_bo (f_X9_isRegister p1) (fun v1 =>
 (if v1 = 0 then
 some ((-1), M)
 else
 qv_gd (qv_inb p1 4) (
 qv_bo (f_X1_makeOf T (qv_rf T t 7) (qv_rf T (qv_rf T (qv_rf T t 0) 0) p1.toNatClampNeg) M) (fun M3 =>
 qv_gS (qv_rf T t 7) 2 M3 (fun v4 =>
 some (v4, M3))))))
noncomputable def b_X2_keyOf_18 (t0 : Nat) (M : qv_Mem) (T : List qv_Ent) (k4 : Int32 → Option Int32) : (Int32 → Int32 → Option Int32) → Int32 → Int32 → Option Int32 := fun r7 v5 v6 =>
 (if 16 ≤ v6 then
 k4 v5
 else
 qv_ldL 16 (qv_rf T t0 0) v6 M (fun v8 =>
 (if (lg_cmp v8 (-1)) < 0 then
 some (-2)
 else
 (if (lg_cmp v8 1) ≤ 0 then
 r7 (((v5 * 3) + v8.toInt32) + 1) (v6 + 1)
 else
 some (-2)))))
noncomputable def f_X2_keyOf (T : List qv_Ent) (t0 : Nat) (M : qv_Mem) : Option Int32 :=
 qv_gS t0 1 M (fun v1 =>
 (if v1 ≤ 1 then
 qv_gS t0 1 M (fun v2 =>
 qv_jn (fun (v3 : Int32) =>
 some v3) (fun k4 =>
 qv_lp2 (b_X2_keyOf_18 t0 M T k4) qv_N v2 0))
 else
 some (-2)))
noncomputable def b_X2_load_11 (t2 : Nat) (T : List qv_Ent) (k4 : Int32 → qv_Mem → Option qv_Mem) : (Int32 → Int32 → qv_Mem → Option qv_Mem) → Int32 → Int32 → qv_Mem → Option qv_Mem := fun r9 v6 v7 M8 =>
 (if v7 < 0 then
 k4 v6 M8
 else
 qv_stL 16 (qv_rf T t2 0) v7 (((v6 - v6 / 3 * 3) - 1).toInt64) M8 (fun M10 =>
 r9 (v6 / 3) (v7 + (-1)) M10))
noncomputable def f_X2_load (T : List qv_Ent) (t : Nat) (p1 : Int32) (t2 : Nat) (M : qv_Mem) : Option qv_Mem :=
 qv_ldI 192 (qv_rf T t 0) p1 M (fun v1 =>
 qv_jn (fun (v2 : Int32) (M3 : qv_Mem) =>
 qv_pS t2 1 v2 M3 (fun M5 =>
 some M5)) (fun k4 =>
 qv_lp3 (b_X2_load_11 t2 T k4) qv_N v1 15 M))
noncomputable def b_X2_findKey_2 (t : Nat) (p1 : Int32) (M : qv_Mem) (T : List qv_Ent) (k1 : Unit → Option Int32) : (Int32 → Option Int32) → Int32 → Option Int32 := fun r3 v2 =>
 qv_gS t 8 M (fun v4 =>
 (if v4 ≤ v2 then
 k1 ()
 else
 qv_ldI 192 (qv_rf T t 0) v2 M (fun v5 =>
 (if v5 = p1 then
 some v2
 else
 r3 (v2 + 1)))))
noncomputable def f_X2_findKey (T : List qv_Ent) (t : Nat) (p1 : Int32) (M : qv_Mem) : Option Int32 :=
 qv_jn (fun (_ : Unit) =>
 some (-2)) (fun k1 =>
 qv_lp1 (b_X2_findKey_2 t p1 M T k1) qv_N 0)
noncomputable def f_X2_reach (T : List qv_Ent) (t : Nat) (p1 : Int32) (p2 : Int32) (M : qv_Mem) : Option qv_Mem :=
 qv_bo (f_X2_load T t p1 (qv_rf T t 7) M) (fun M1 =>
 qv_bo (f_X7_applyBehind T (qv_rf T t 7) p2 M1) (fun M2 =>
 qv_bo (f_X2_keyOf T (qv_rf T t 7) M2) (fun v3 =>
 qv_bo (f_X2_findKey T t v3 M2) (fun v4 =>
 qv_jn (fun (v5 : Int32) (M6 : qv_Mem) =>
 qv_stI 1344 (qv_rf T t 1) ((p1 * 7) + p2) (if v5 < 0 then 0 else v5) M6 (fun M8 =>
 some M8)) (fun k7 =>
 (if 0 ≤ v4 then
 k7 v4 M2
 else
 qv_gS t 8 M2 (fun v9 =>
 (if 192 ≤ v9 then
 k7 v4 M2
 else
 qv_gS t 8 M2 (fun v10 =>
 qv_stI 192 (qv_rf T t 0) v10 v3 M2 (fun M11 =>
 qv_stI 192 (qv_rf T t 3) v10 p1 M11 (fun M12 =>
 qv_stI 192 (qv_rf T t 4) v10 p2 M12 (fun M13 =>
 qv_gS t 8 M13 (fun v14 =>
 qv_pS t 8 (v14 + 1) M13 (fun M15 =>
 k7 v10 M15))))))))))))))
noncomputable def f_X2_next (T : List qv_Ent) (t : Nat) (p1 : Int32) (p2 : Int32) (M : qv_Mem) : Option Int32 :=
 qv_ldI 1344 (qv_rf T t 1) ((p1 * 7) + p2) M (fun v1 =>
 some v1)
noncomputable def b_X2_fillWithout_38 (t : Nat) (p1 : Int32) (T : List qv_Ent) (k4 : qv_Mem → Option qv_Mem) : (Int32 → qv_Mem → Option qv_Mem) → Int32 → qv_Mem → Option qv_Mem := fun r7 v5 M6 =>
 (if 192 ≤ v5 then
 k4 M6
 else
 qv_ldI 192 (qv_rf T t 3) v5 M6 (fun v8 =>
 qv_ldI 1344 (qv_rf T t 2) ((v8 * 7) + p1) M6 (fun v9 =>
 qv_ldI 192 (qv_rf T t 4) v5 M6 (fun v10 =>
 qv_bo (f_X2_next T t v9 v10 M6) (fun v11 =>
 qv_stI 1344 (qv_rf T t 2) ((v5 * 7) + p1) v11 M6 (fun M12 =>
 r7 (v5 + 1) M12))))))
noncomputable def b_X2_fillWithout_2 (t : Nat) (p1 : Int32) (T : List qv_Ent) (k2 : qv_Mem → Option qv_Mem) : (Int32 → qv_Mem → Option qv_Mem) → Int32 → qv_Mem → Option qv_Mem := fun r15 v13 M14 =>
 (if 192 ≤ v13 then
 k2 M14
 else
 qv_ldI 1344 (qv_rf T t 1) ((v13 * 7) + p1) M14 (fun v16 =>
 qv_jn (fun (M17 : qv_Mem) =>
 r15 (v13 + 1) M17) (fun k18 =>
 (if v16 = 0 then
 qv_stI 1344 (qv_rf T t 2) p1 v13 M14 (fun M19 =>
 k18 M19)
 else
 k18 M14))))
noncomputable def f_X2_fillWithout (T : List qv_Ent) (t : Nat) (p1 : Int32) (M : qv_Mem) : Option qv_Mem :=
 qv_jn (fun (M1 : qv_Mem) =>
 qv_jn (fun (M3 : qv_Mem) =>
 some M3) (fun k4 =>
 qv_lp2 (b_X2_fillWithout_38 t p1 T k4) qv_N 1 M1)) (fun k2 =>
 qv_lp2 (b_X2_fillWithout_2 t p1 T k2) qv_N 0 M)
noncomputable def b_X2_prepare_162 (t : Nat) (T : List qv_Ent) (k13 : qv_Mem → Option qv_Mem) : (Int32 → qv_Mem → Option qv_Mem) → Int32 → qv_Mem → Option qv_Mem := fun r16 v14 M15 =>
 (if 5 ≤ v14 then
 k13 M15
 else
 qv_ldP v14 (fun v17 =>
 qv_bo (f_X2_fillWithout T t v17 M15) (fun M18 =>
 r16 (v14 + 1) M18)))
noncomputable def b_X2_prepare_113 (t : Nat) (T : List qv_Ent) (k11 : qv_Mem → Option qv_Mem) : (Int32 → qv_Mem → Option qv_Mem) → Int32 → qv_Mem → Option qv_Mem := fun r21 v19 M20 =>
 (if 192 ≤ v19 then
 k11 M20
 else
 qv_bo (f_X2_next T t v19 0 M20) (fun v22 =>
 qv_bo (f_X2_next T t v22 4 M20) (fun v23 =>
 qv_bo (f_X2_next T t v23 0 M20) (fun v24 =>
 qv_stI 1344 (qv_rf T t 1) ((v19 * 7) + 3) v24 M20 (fun M25 =>
 r21 (v19 + 1) M25)))))
noncomputable def b_X2_prepare_76 (t : Nat) (T : List qv_Ent) (k9 : qv_Mem → Option qv_Mem) : (Int32 → qv_Mem → Option qv_Mem) → Int32 → qv_Mem → Option qv_Mem := fun r28 v26 M27 =>
 (if 192 ≤ v26 then
 k9 M27
 else
 qv_bo (f_X2_next T t v26 2 M27) (fun v29 =>
 qv_bo (f_X2_next T t v29 2 M27) (fun v30 =>
 qv_stI 1344 (qv_rf T t 1) ((v26 * 7) + 4) v30 M27 (fun M31 =>
 r28 (v26 + 1) M31))))
noncomputable def b_X2_prepare_35 (t : Nat) (T : List qv_Ent) (k7 : qv_Mem → Option qv_Mem) : (Int32 → qv_Mem → Option qv_Mem) → Int32 → qv_Mem → Option qv_Mem := fun r34 v32 M33 =>
 qv_gS t 8 M33 (fun v35 =>
 (if v35 ≤ v32 then
 k7 M33
 else
 (if 192 ≤ v32 then
 k7 M33
 else
 qv_bo (f_X2_reach T t v32 0 M33) (fun M36 =>
 qv_bo (f_X2_reach T t v32 2 M36) (fun M37 =>
 qv_bo (f_X2_reach T t v32 5 M37) (fun M38 =>
 r34 (v32 + 1) M38))))))
noncomputable def f_X2_prepare (T : List qv_Ent) (t : Nat) (M : qv_Mem) : Option qv_Mem :=
 qv_gS t 8 M (fun v1 =>
 (if v1 ≤ 0 then
 qv_bo (f_X7_makeUnit T (qv_rf T t 7) M) (fun M2 =>
 qv_bo (f_X2_keyOf T (qv_rf T t 7) M2) (fun v3 =>
 qv_stI 192 (qv_rf T t 0) 0 v3 M2 (fun M4 =>
 qv_pS t 8 1 M4 (fun M5 =>
 qv_jn (fun (M6 : qv_Mem) =>
 qv_jn (fun (M8 : qv_Mem) =>
 qv_jn (fun (M10 : qv_Mem) =>
 qv_jn (fun (M12 : qv_Mem) =>
 some M12) (fun k13 =>
 qv_lp2 (b_X2_prepare_162 t T k13) qv_N 0 M10)) (fun k11 =>
 qv_lp2 (b_X2_prepare_113 t T k11) qv_N 0 M8)) (fun k9 =>
 qv_lp2 (b_X2_prepare_76 t T k9) qv_N 0 M6)) (fun k7 =>
 qv_lp2 (b_X2_prepare_35 t T k7) qv_N 0 M5)))))
 else
 some M))
noncomputable def f_X2_find (T : List qv_Ent) (t : Nat) (t1 : Nat) (M : qv_Mem) : Option Int32 :=
 qv_bo (f_X2_keyOf T t1 M) (fun v1 =>
 qv_bo (f_X2_findKey T t v1 M) (fun v2 =>
 some v2))
noncomputable def f_X9_clifford (T : List qv_Ent) (t : Nat) (p1 : Int32) (M : qv_Mem) : Option (Int32 × qv_Mem) :=
 qv_bo (f_X9_isRegister p1) (fun v1 =>
 (if v1 = 0 then
 some ((-1), M)
 else
 qv_bo (f_X2_prepare T (qv_rf T t 6) M) (fun M2 =>
 qv_gd (qv_inb p1 4) (
 qv_bo (f_X2_find T (qv_rf T t 6) (qv_rf T (qv_rf T (qv_rf T t 0) 0) p1.toNatClampNeg) M2) (fun v4 =>
 some (v4, M2))))))
noncomputable def f_X9_take (T : List qv_Ent) (t : Nat) (p1 : Int32) (p2 : Int32) (M : qv_Mem) : Option (Int32 × qv_Mem) :=
 qv_bo (f_X9_isRegister p1) (fun v1 =>
 (if v1 = 0 then
 some ((-1), M)
 else
 qv_bo (f_X9_isBelow p2 192) (fun v2 =>
 (if v2 = 0 then
 some ((-1), M)
 else
 qv_bo (f_X2_prepare T (qv_rf T t 6) M) (fun M3 =>
 qv_bo (f_X2_load T (qv_rf T t 6) p2 (qv_rf T t 10) M3) (fun M4 =>
 qv_bp (f_X9_settleRegister T t p1 M4) (fun v5 M6 =>
 some (v5, M6))))))))
noncomputable def f_X9_leads (T : List qv_Ent) (t : Nat) (p1 : Int32) (p2 : Int32) (M : qv_Mem) : Option (Int32 × qv_Mem) :=
 qv_bo (f_X9_isBelow p1 192) (fun v1 =>
 (if v1 = 0 then
 some ((-1), M)
 else
 qv_bo (f_X9_isGate p2) (fun v2 =>
 (if v2 = 0 then
 some ((-1), M)
 else
 (if p2 = 1 then
 some ((-1), M)
 else
 (if p2 = 6 then
 some ((-1), M)
 else
 qv_bo (f_X2_prepare T (qv_rf T t 6) M) (fun M3 =>
 qv_bo (f_X2_next T (qv_rf T t 6) p1 p2 M3) (fun v4 =>
 some (v4, M3)))))))))
noncomputable def f_X9_price (T : List qv_Ent) (t : Nat) (p1 : Int32) (p2 : Int32) (M : qv_Mem) : Option (Int32 × qv_Mem) :=
 qv_bo (f_X9_isGate p1) (fun v1 =>
 (if v1 = 0 then
 some ((-1), M)
 else
 (if p2 < 0 then
 some ((-1), M)
 else
 (if p2 ≤ 9 then
 qv_ldI 7 (qv_rf T (qv_rf T t 0) 2) p1 M (fun v2 =>
 qv_stI 7 (qv_rf T (qv_rf T t 0) 2) p1 p2 M (fun M3 =>
 some (v2, M3)))
 else
 some ((-1), M)))))
noncomputable def b_X2_isRankedBy_10 (t : Nat) (t1 : Nat) (M : qv_Mem) (T : List qv_Ent) (k1 : Unit → Option Int32) : (Int32 → Option Int32) → Int32 → Option Int32 := fun r3 v2 =>
 (if 5 ≤ v2 then
 k1 ()
 else
 qv_ldP v2 (fun v4 =>
 qv_ldI 7 (qv_rf T t 6) v4 M (fun v5 =>
 qv_ldI 7 t1 v4 M (fun v6 =>
 (if v5 = v6 then
 r3 (v2 + 1)
 else
 some 0)))))
noncomputable def f_X2_isRankedBy (T : List qv_Ent) (t : Nat) (t1 : Nat) (M : qv_Mem) : Option Int32 :=
 qv_jn (fun (_ : Unit) =>
 some 1) (fun k1 =>
 qv_lp1 (b_X2_isRankedBy_10 t t1 M T k1) qv_N 0)
noncomputable def f_X2_weightOf (T : List qv_Ent) (t : Nat) (p1 : Int32) (M : qv_Mem) : Option Int32 :=
 qv_ldI 7 (qv_rf T t 6) p1 M (fun v1 =>
 some ((v1 * 1024) + 1))
noncomputable def b_X2_improveRanks_22 (t : Nat) (T : List qv_Ent) (v5 : Int32) (k10 : Int32 → qv_Mem → Option (Int32 × qv_Mem)) : (Int32 → Int32 → qv_Mem → Option (Int32 × qv_Mem)) → Int32 → Int32 → qv_Mem → Option (Int32 × qv_Mem) := fun r14 v11 v12 M13 =>
 (if 5 ≤ v12 then
 k10 v11 M13
 else
 qv_ldP v12 (fun v15 =>
 qv_ldI 1344 (qv_rf T t 1) ((v5 * 7) + v15) M13 (fun v16 =>
 qv_ldI 192 (qv_rf T t 5) v5 M13 (fun v17 =>
 qv_bo (f_X2_weightOf T t v15 M13) (fun v18 =>
 qv_ldI 192 (qv_rf T t 5) v16 M13 (fun v19 =>
 qv_jn (fun (v20 : Int32) (M21 : qv_Mem) =>
 r14 v20 (v12 + 1) M21) (fun k22 =>
 (if v19 ≤ (v17 + v18) then
 k22 v11 M13
 else
 qv_stI 192 (qv_rf T t 5) v16 (v17 + v18) M13 (fun M23 =>
 k22 1 M23)))))))))
noncomputable def b_X2_improveRanks_4 (t : Nat) (T : List qv_Ent) (k3 : Int32 → qv_Mem → Option (Int32 × qv_Mem)) : (Int32 → Int32 → qv_Mem → Option (Int32 × qv_Mem)) → Int32 → Int32 → qv_Mem → Option (Int32 × qv_Mem) := fun r7 v4 v5 M6 =>
 (if 192 ≤ v5 then
 k3 v4 M6
 else
 qv_jn (fun (v8 : Int32) (M9 : qv_Mem) =>
 r7 v8 (v5 + 1) M9) (fun k10 =>
 qv_lp3 (b_X2_improveRanks_22 t T v5 k10) qv_N v4 0 M6))
noncomputable def f_X2_improveRanks (T : List qv_Ent) (t : Nat) (M : qv_Mem) : Option (Int32 × qv_Mem) :=
 qv_jn (fun (v1 : Int32) (M2 : qv_Mem) =>
 qv_gd (qv_01 v1) (some (v1, M2))) (fun k3 =>
 qv_lp3 (b_X2_improveRanks_4 t T k3) qv_N 0 0 M)
noncomputable def b_X2_rankBy_71 (t : Nat) (T : List qv_Ent) (k10 : qv_Mem → Option qv_Mem) : (Int32 → Int32 → qv_Mem → Option qv_Mem) → Int32 → Int32 → qv_Mem → Option qv_Mem := fun r14 v11 v12 M13 =>
 (if 192 ≤ v12 then
 k10 M13
 else
 (if v11 = 0 then
 k10 M13
 else
 qv_bp (f_X2_improveRanks T t M13) (fun v15 M16 =>
 r14 v15 (v12 + 1) M16)))
noncomputable def b_X2_rankBy_39 (t : Nat) (T : List qv_Ent) (k7 : qv_Mem → Option qv_Mem) : (Int32 → qv_Mem → Option qv_Mem) → Int32 → qv_Mem → Option qv_Mem := fun r19 v17 M18 =>
 (if 192 ≤ v17 then
 k7 M18
 else
 qv_stI 192 (qv_rf T t 5) v17 1073741824 M18 (fun M20 =>
 r19 (v17 + 1) M20))
noncomputable def f_X2_rankBy (T : List qv_Ent) (t : Nat) (t1 : Nat) (M : qv_Mem) : Option qv_Mem :=
 qv_bo (f_X2_prepare T t M) (fun M1 =>
 qv_gS t 9 M1 (fun v2 =>
 qv_jn (fun (_ : Unit) =>
 qv_cc 7 0 7 0 7 (qv_jn (qv_cpI M1 t1 (qv_rf T t 6) (0 : Int32).toNatClampNeg (0 : Int32).toNatClampNeg (7 : Int32).toNatClampNeg) fun M4 =>
 qv_pZ t 9 1 M4 (fun M5 =>
 qv_jn (fun (M6 : qv_Mem) =>
 qv_stI 192 (qv_rf T t 5) 0 0 M6 (fun M8 =>
 qv_jn (fun (M9 : qv_Mem) =>
 some M9) (fun k10 =>
 qv_lp3 (b_X2_rankBy_71 t T k10) qv_N 1 0 M8))) (fun k7 =>
 qv_lp2 (b_X2_rankBy_39 t T k7) qv_N 0 M5)))) (fun k3 =>
 (if v2 = 0 then
 k3 ()
 else
 qv_bo (f_X2_isRankedBy T t t1 M1) (fun v21 =>
 (if v21 = 0 then
 k3 ()
 else
 some M1))))))
noncomputable def f_X2_costOf (T : List qv_Ent) (t : Nat) (p1 : Int32) (M : qv_Mem) : Option Int32 :=
 qv_ldI 192 (qv_rf T t 5) p1 M (fun v1 =>
 some (v1 / 1024))
noncomputable def f_X2_lengthOf (T : List qv_Ent) (t : Nat) (p1 : Int32) (M : qv_Mem) : Option Int32 :=
 qv_ldI 192 (qv_rf T t 5) p1 M (fun v1 =>
 some (v1 - v1 / 1024 * 1024))
noncomputable def b_X2_firstGateOf_10 (t : Nat) (p1 : Int32) (M : qv_Mem) (T : List qv_Ent) (k1 : Unit → Option Int32) : (Int32 → Option Int32) → Int32 → Option Int32 := fun r3 v2 =>
 (if 5 ≤ v2 then
 k1 ()
 else
 qv_ldP v2 (fun v4 =>
 qv_ldI 1344 (qv_rf T t 2) ((p1 * 7) + v4) M (fun v5 =>
 qv_ldI 192 (qv_rf T t 5) v5 M (fun v6 =>
 qv_bo (f_X2_weightOf T t v4 M) (fun v7 =>
 qv_ldI 192 (qv_rf T t 5) p1 M (fun v8 =>
 (if (v6 + v7) = v8 then
 some v4
 else
 r3 (v2 + 1))))))))
noncomputable def f_X2_firstGateOf (T : List qv_Ent) (t : Nat) (p1 : Int32) (M : qv_Mem) : Option Int32 :=
 qv_jn (fun (_ : Unit) =>
 some (-2)) (fun k1 =>
 qv_lp1 (b_X2_firstGateOf_10 t p1 M T k1) qv_N 0)
noncomputable def f_X2_restOf (T : List qv_Ent) (t : Nat) (p1 : Int32) (M : qv_Mem) : Option Int32 :=
 qv_bo (f_X2_firstGateOf T t p1 M) (fun v1 =>
 (if 0 ≤ v1 then
 qv_ldI 1344 (qv_rf T t 2) ((p1 * 7) + v1) M (fun v2 =>
 some v2)
 else
 some p1))
noncomputable def b_X2_gateOf_17 (t : Nat) (p2 : Int32) (M : qv_Mem) (T : List qv_Ent) (k3 : Int32 → Option Int32) : (Int32 → Int32 → Option Int32) → Int32 → Int32 → Option Int32 := fun r7 v5 v6 =>
 (if p2 ≤ v6 then
 k3 v5
 else
 qv_bo (f_X2_restOf T t v5 M) (fun v8 =>
 r7 v8 (v6 + 1)))
noncomputable def f_X2_gateOf (T : List qv_Ent) (t : Nat) (p1 : Int32) (p2 : Int32) (M : qv_Mem) : Option Int32 :=
 qv_bo (f_X2_lengthOf T t p1 M) (fun v1 =>
 (if p2 < v1 then
 qv_jn (fun (v2 : Int32) =>
 qv_bo (f_X2_firstGateOf T t v2 M) (fun v4 =>
 some v4)) (fun k3 =>
 qv_lp2 (b_X2_gateOf_17 t p2 M T k3) qv_N p1 0)
 else
 some (-2)))
noncomputable def f_X9_cheapest (T : List qv_Ent) (t : Nat) (p1 : Int32) (p2 : Int32) (M : qv_Mem) : Option (Int32 × qv_Mem) :=
 qv_bo (f_X9_isBelow p1 192) (fun v1 =>
 (if v1 = 0 then
 some ((-1), M)
 else
 (if (-2) ≤ p2 then
 qv_bo (f_X2_rankBy T (qv_rf T t 6) (qv_rf T (qv_rf T t 0) 2) M) (fun M2 =>
 (if p2 = (-2) then
 qv_bo (f_X2_costOf T (qv_rf T t 6) p1 M2) (fun v5 =>
 some (v5, M2))
 else
 (if p2 = (-1) then
 qv_bo (f_X2_lengthOf T (qv_rf T t 6) p1 M2) (fun v4 =>
 some (v4, M2))
 else
 qv_bo (f_X2_gateOf T (qv_rf T t 6) p1 p2 M2) (fun v3 =>
 some (v3, M2)))))
 else
 some ((-1), M))))
noncomputable def f_X9_isWord (p0 : Int32) : Option Int32 :=
 qv_bo (f_X9_isBelow p0 3) (fun v1 =>
 qv_gd (qv_01 v1) (some v1))
noncomputable def f_X6_makeCopy (T : List qv_Ent) (t : Nat) (t1 : Nat) (M : qv_Mem) : Option qv_Mem :=
 qv_gS t1 1 M (fun v1 =>
 qv_cc 60 0 60 0 v1 (qv_jn (qv_cpI M (qv_rf T t1 0) (qv_rf T t 0) (0 : Int32).toNatClampNeg (0 : Int32).toNatClampNeg (v1).toNatClampNeg) fun M2 =>
 qv_gS t1 1 M2 (fun v3 =>
 qv_pS t 1 v3 M2 (fun M4 =>
 some M4))))
noncomputable def f_X6_add (T : List qv_Ent) (t : Nat) (p1 : Int32) (M : qv_Mem) : Option (Int32 × qv_Mem) :=
 qv_gS t 1 M (fun v1 =>
 (if v1 < 60 then
 qv_gS t 1 M (fun v2 =>
 qv_stI 60 (qv_rf T t 0) v2 p1 M (fun M3 =>
 qv_gS t 1 M3 (fun v4 =>
 qv_pS t 1 (v4 + 1) M3 (fun M5 =>
 some (1, M5)))))
 else
 some (0, M)))
noncomputable def b_X6_isSame_15 (t : Nat) (t1 : Nat) (M : qv_Mem) (T : List qv_Ent) (k3 : Unit → Option Int32) : (Int32 → Option Int32) → Int32 → Option Int32 := fun r5 v4 =>
 qv_gS t 1 M (fun v6 =>
 (if v6 ≤ v4 then
 k3 ()
 else
 qv_ldI 60 (qv_rf T t 0) v4 M (fun v7 =>
 qv_ldI 60 (qv_rf T t1 0) v4 M (fun v8 =>
 (if v7 = v8 then
 r5 (v4 + 1)
 else
 some 0)))))
noncomputable def f_X6_isSame (T : List qv_Ent) (t : Nat) (t1 : Nat) (M : qv_Mem) : Option Int32 :=
 qv_gS t 1 M (fun v1 =>
 qv_gS t1 1 M (fun v2 =>
 (if v1 = v2 then
 qv_jn (fun (_ : Unit) =>
 some 1) (fun k3 =>
 qv_lp1 (b_X6_isSame_15 t t1 M T k3) qv_N 0)
 else
 some 0)))
noncomputable def f_X3_keep (T : List qv_Ent) (t : Nat) (p1 : Int32) (t2 : Nat) (M : qv_Mem) : Option qv_Mem :=
 qv_gS t 2 M (fun v1 =>
 qv_gd (qv_inb v1 8) (
 qv_bo (f_X6_makeCopy T (qv_rf T (qv_rf T t 0) v1.toNatClampNeg) t2 M) (fun M3 =>
 qv_gS t 2 M3 (fun v4 =>
 qv_stI 8 (qv_rf T t 1) v4 p1 M3 (fun M5 =>
 qv_gS t 2 M5 (fun v6 =>
 qv_pS t 2 ((v6 + 1) - (v6 + 1) / 8 * 8) M5 (fun M7 =>
 qv_gS t 3 M7 (fun v8 =>
 qv_pS t 3 (if 8 < (v8 + 1) then 8 else (v8 + 1)) M7 (fun M9 =>
 some M9)))))))))
noncomputable def f_X9_settleWord (T : List qv_Ent) (t : Nat) (p1 : Int32) (M : qv_Mem) : Option (Int32 × qv_Mem) :=
 qv_gd (qv_inb p1 3) (
 qv_bo (f_X6_isSame T (qv_rf T (qv_rf T (qv_rf T t 0) 1) p1.toNatClampNeg) (qv_rf T t 9) M) (fun v2 =>
 qv_jn (fun (M3 : qv_Mem) =>
 qv_gS (qv_rf T (qv_rf T (qv_rf T t 0) 1) p1.toNatClampNeg) 1 M3 (fun v5 =>
 some (v5, M3))) (fun k4 =>
 (if v2 = 0 then
 qv_bo (f_X3_keep T (qv_rf T t 3) p1 (qv_rf T (qv_rf T (qv_rf T t 0) 1) p1.toNatClampNeg) M) (fun M6 =>
 qv_bo (f_X6_makeCopy T (qv_rf T (qv_rf T (qv_rf T t 0) 1) p1.toNatClampNeg) (qv_rf T t 9) M6) (fun M7 =>
 k4 M7))
 else
 k4 M))))
noncomputable def f_X9_push (T : List qv_Ent) (t : Nat) (p1 : Int32) (p2 : Int32) (M : qv_Mem) : Option (Int32 × qv_Mem) :=
 qv_bo (f_X9_isWord p1) (fun v1 =>
 (if v1 = 0 then
 some ((-1), M)
 else
 qv_bo (f_X9_isGate p2) (fun v2 =>
 (if v2 = 0 then
 some ((-1), M)
 else
 qv_gd (qv_inb p1 3) (
 qv_bo (f_X6_makeCopy T (qv_rf T t 9) (qv_rf T (qv_rf T (qv_rf T t 0) 1) p1.toNatClampNeg) M) (fun M4 =>
 qv_bp (f_X6_add T (qv_rf T t 9) p2 M4) (fun v5 M6 =>
 (if v5 = 0 then
 some ((-3), M6)
 else
 qv_bp (f_X9_settleWord T t p1 M6) (fun v7 M8 =>
 some (v7, M8))))))))))
noncomputable def f_X6_at (T : List qv_Ent) (t : Nat) (p1 : Int32) (M : qv_Mem) : Option Int32 :=
 qv_gS t 1 M (fun v1 =>
 qv_bo (f_X9_isBelow p1 v1) (fun v2 =>
 (if v2 = 0 then
 some (-2)
 else
 qv_ldI 60 (qv_rf T t 0) p1 M (fun v3 =>
 some v3))))
noncomputable def b_X6_cut_23 (t : Nat) (p2 : Int32) (T : List qv_Ent) (k3 : qv_Mem → Option qv_Mem) : (Int32 → qv_Mem → Option qv_Mem) → Int32 → qv_Mem → Option qv_Mem := fun r8 v6 M7 =>
 qv_gS t 1 M7 (fun v9 =>
 (if v9 ≤ v6 then
 k3 M7
 else
 qv_ldI 60 (qv_rf T t 0) v6 M7 (fun v10 =>
 qv_stI 60 (qv_rf T t 0) (v6 - p2) v10 M7 (fun M11 =>
 r8 (v6 + 1) M11))))
noncomputable def f_X6_cut (T : List qv_Ent) (t : Nat) (p1 : Int32) (p2 : Int32) (M : qv_Mem) : Option qv_Mem :=
 (if p1 < 0 then
 some M
 else
 (if p2 < 0 then
 some M
 else
 qv_gS t 1 M (fun v1 =>
 (if (p1 + p2) ≤ v1 then
 qv_jn (fun (M2 : qv_Mem) =>
 qv_gS t 1 M2 (fun v4 =>
 qv_pS t 1 (v4 - p2) M2 (fun M5 =>
 some M5))) (fun k3 =>
 qv_lp2 (b_X6_cut_23 t p2 T k3) qv_N (p1 + p2) M)
 else
 some M))))
noncomputable def f_X9_pull (T : List qv_Ent) (t : Nat) (p1 : Int32) (M : qv_Mem) : Option (Int32 × qv_Mem) :=
 qv_bo (f_X9_isWord p1) (fun v1 =>
 (if v1 = 0 then
 some ((-1), M)
 else
 qv_gd (qv_inb p1 3) (
 qv_bo (f_X6_makeCopy T (qv_rf T t 9) (qv_rf T (qv_rf T (qv_rf T t 0) 1) p1.toNatClampNeg) M) (fun M3 =>
 qv_gS (qv_rf T t 9) 1 M3 (fun v4 =>
 qv_bo (f_X6_at T (qv_rf T t 9) (v4 - 1) M3) (fun v5 =>
 (if 0 ≤ v5 then
 qv_gS (qv_rf T t 9) 1 M3 (fun v6 =>
 qv_bo (f_X6_cut T (qv_rf T t 9) (v6 - 1) 1 M3) (fun M7 =>
 qv_bp (f_X9_settleWord T t p1 M7) (fun v8 M9 =>
 some (v5, M9))))
 else
 some ((-2), M3))))))))
noncomputable def b_X6_costBy_4 (t : Nat) (t1 : Nat) (M : qv_Mem) (T : List qv_Ent) (k2 : Int32 → Option Int32) : (Int32 → Int32 → Option Int32) → Int32 → Int32 → Option Int32 := fun r5 v3 v4 =>
 qv_gS t 1 M (fun v6 =>
 (if v6 ≤ v4 then
 k2 v3
 else
 qv_ldI 60 (qv_rf T t 0) v4 M (fun v7 =>
 qv_ldI 7 t1 v7 M (fun v8 =>
 r5 (v3 + v8) (v4 + 1)))))
noncomputable def f_X6_costBy (T : List qv_Ent) (t : Nat) (t1 : Nat) (M : qv_Mem) : Option Int32 :=
 qv_jn (fun (v1 : Int32) =>
 some v1) (fun k2 =>
 qv_lp2 (b_X6_costBy_4 t t1 M T k2) qv_N 0 0)
noncomputable def f_X9_word (T : List qv_Ent) (t : Nat) (p1 : Int32) (p2 : Int32) (M : qv_Mem) : Option Int32 :=
 qv_bo (f_X9_isWord p1) (fun v1 =>
 (if v1 = 0 then
 some (-1)
 else
 (if (-2) ≤ p2 then
 (if p2 = (-2) then
 qv_gd (qv_inb p1 3) (
 qv_bo (f_X6_costBy T (qv_rf T (qv_rf T (qv_rf T t 0) 1) p1.toNatClampNeg) (qv_rf T (qv_rf T t 0) 2) M) (fun v7 =>
 some v7))
 else
 (if p2 = (-1) then
 qv_gd (qv_inb p1 3) (
 qv_gS (qv_rf T (qv_rf T (qv_rf T t 0) 1) p1.toNatClampNeg) 1 M (fun v5 =>
 some v5))
 else
 qv_gd (qv_inb p1 3) (
 qv_bo (f_X6_at T (qv_rf T (qv_rf T (qv_rf T t 0) 1) p1.toNatClampNeg) p2 M) (fun v3 =>
 some v3))))
 else
 some (-1))))
noncomputable def b_X7_applyRow_17 (t : Nat) (t1 : Nat) (p3 : Int32) (T : List qv_Ent) (v1 : Int32) (k3 : qv_Mem → Option qv_Mem) : (Int32 → qv_Mem → Option qv_Mem) → Int32 → qv_Mem → Option qv_Mem := fun r6 v4 M5 =>
 (if (if v1 < p3 then v1 else p3) ≤ v4 then
 k3 M5
 else
 qv_bo (f_X6_at T t1 v4 M5) (fun v7 =>
 qv_bo (f_X7_applyBehind T t v7 M5) (fun M8 =>
 r6 (v4 + 1) M8)))
noncomputable def f_X7_applyRow (T : List qv_Ent) (t : Nat) (t1 : Nat) (p2 : Int32) (p3 : Int32) (M : qv_Mem) : Option qv_Mem :=
 qv_gS t1 1 M (fun v1 =>
 qv_jn (fun (M2 : qv_Mem) =>
 some M2) (fun k3 =>
 qv_lp2 (b_X7_applyRow_17 t t1 p3 T v1 k3) qv_N (if p2 < 0 then 0 else p2) M))
noncomputable def f_X9_value (T : List qv_Ent) (t : Nat) (p1 : Int32) (p2 : Int32) (M : qv_Mem) : Option (Int32 × qv_Mem) :=
 qv_bo (f_X9_isRegister p1) (fun v1 =>
 (if v1 = 0 then
 some ((-1), M)
 else
 qv_bo (f_X9_isWord p2) (fun v2 =>
 (if v2 = 0 then
 some ((-1), M)
 else
 qv_bo (f_X7_makeUnit T (qv_rf T t 10) M) (fun M3 =>
 qv_gd (qv_inb p2 3) (
 qv_bo (f_X7_applyRow T (qv_rf T t 10) (qv_rf T (qv_rf T (qv_rf T t 0) 1) p2.toNatClampNeg) 0 60 M3) (fun M5 =>
 qv_bp (f_X9_settleRegister T t p1 M5) (fun v6 M7 =>
 some (v6, M7)))))))))
noncomputable def f_X6_goesOut (p0 : Int32) (p1 : Int32) : Option Int32 :=
 qv_jn (fun (v1 : Int32) =>
 (if v1 = 0 then
 qv_jn (fun (_ : Unit) =>
 (if p0 = 6 then
 (if p1 = 1 then
 some 1
 else
 some 0)
 else
 some 0)) (fun k3 =>
 (if p0 = 1 then
 (if p1 = 6 then
 some 1
 else
 k3 ())
 else
 k3 ()))
 else
 some 1)) (fun k2 =>
 (if p0 = p1 then
 (if p0 = 0 then
 k2 1
 else
 (if p0 = 3 then
 k2 1
 else
 (if p0 = 4 then
 k2 1
 else
 k2 0)))
 else
 k2 0))
noncomputable def b_X6_standsEightTimes_2 (t : Nat) (p1 : Int32) (p2 : Int32) (M : qv_Mem) (T : List qv_Ent) (k1 : Unit → Option Int32) : (Int32 → Option Int32) → Int32 → Option Int32 := fun r3 v2 =>
 (if 8 ≤ v2 then
 k1 ()
 else
 qv_bo (f_X6_at T t (p2 + v2) M) (fun v4 =>
 (if v4 = p1 then
 r3 (v2 + 1)
 else
 some 0)))
noncomputable def f_X6_standsEightTimes (T : List qv_Ent) (t : Nat) (p1 : Int32) (p2 : Int32) (M : qv_Mem) : Option Int32 :=
 qv_jn (fun (_ : Unit) =>
 some 1) (fun k1 =>
 qv_lp1 (b_X6_standsEightTimes_2 t p1 p2 M T k1) qv_N 0)
noncomputable def f_X6_joinOf (p0 : Int32) (p1 : Int32) : Option Int32 :=
 qv_jn (fun (_ : Unit) =>
 qv_jn (fun (_ : Unit) =>
 qv_jn (fun (_ : Unit) =>
 (if p0 = 6 then
 (if p1 = 2 then
 some 1
 else
 some (-2))
 else
 some (-2))) (fun k3 =>
 (if p0 = 2 then
 (if p1 = 6 then
 some 1
 else
 k3 ())
 else
 k3 ()))) (fun k2 =>
 (if p0 = 2 then
 (if p1 = 2 then
 some 4
 else
 k2 ())
 else
 k2 ()))) (fun k1 =>
 (if p0 = 1 then
 (if p1 = 1 then
 some 2
 else
 k1 ())
 else
 k1 ()))
noncomputable def f_X6_shortenAt (T : List qv_Ent) (t : Nat) (p1 : Int32) (M : qv_Mem) : Option (Int32 × qv_Mem) :=
 qv_ldI 60 (qv_rf T t 0) p1 M (fun v1 =>
 qv_bo (f_X6_at T t (p1 + 1) M) (fun v2 =>
 qv_bo (f_X6_goesOut v1 v2) (fun v3 =>
 (if v3 = 0 then
 qv_bo (f_X6_standsEightTimes T t 5 p1 M) (fun v4 =>
 (if v4 = 0 then
 qv_jn (fun (_ : Unit) =>
 qv_bo (f_X6_joinOf v1 v2) (fun v6 =>
 (if 0 ≤ v6 then
 qv_stI 60 (qv_rf T t 0) p1 v6 M (fun M7 =>
 qv_bo (f_X6_cut T t (p1 + 1) 1 M7) (fun M8 =>
 some (1, M8)))
 else
 some (0, M)))) (fun k5 =>
 (if v1 = 6 then
 (if v2 = 6 then
 qv_stI 60 (qv_rf T t 0) p1 2 M (fun M9 =>
 qv_stI 60 (qv_rf T t 0) (p1 + 1) 4 M9 (fun M10 =>
 some (1, M10)))
 else
 k5 ())
 else
 k5 ()))
 else
 qv_bo (f_X6_cut T t p1 8 M) (fun M11 =>
 some (1, M11))))
 else
 qv_bo (f_X6_cut T t p1 2 M) (fun M12 =>
 some (1, M12))))))
noncomputable def b_X6_shortenOnce_2 (t : Nat) (T : List qv_Ent) (k2 : qv_Mem → Option (Int32 × qv_Mem)) : (Int32 → qv_Mem → Option (Int32 × qv_Mem)) → Int32 → qv_Mem → Option (Int32 × qv_Mem) := fun r5 v3 M4 =>
 qv_gS t 1 M4 (fun v6 =>
 (if v6 ≤ v3 then
 k2 M4
 else
 qv_bp (f_X6_shortenAt T t v3 M4) (fun v7 M8 =>
 (if v7 = 0 then
 r5 (v3 + 1) M8
 else
 some (1, M8)))))
noncomputable def f_X6_shortenOnce (T : List qv_Ent) (t : Nat) (M : qv_Mem) : Option (Int32 × qv_Mem) :=
 qv_jn (fun (M1 : qv_Mem) =>
 some (0, M1)) (fun k2 =>
 qv_lp2 (b_X6_shortenOnce_2 t T k2) qv_N 0 M)
noncomputable def b_X6_shorten_4 (t : Nat) (T : List qv_Ent) (k2 : qv_Mem → Option qv_Mem) : (Int32 → Int32 → qv_Mem → Option qv_Mem) → Int32 → Int32 → qv_Mem → Option qv_Mem := fun r6 v3 v4 M5 =>
 (if 120 ≤ v4 then
 k2 M5
 else
 (if v3 = 0 then
 k2 M5
 else
 qv_bp (f_X6_shortenOnce T t M5) (fun v7 M8 =>
 r6 v7 (v4 + 1) M8)))
noncomputable def f_X6_shorten (T : List qv_Ent) (t : Nat) (M : qv_Mem) : Option qv_Mem :=
 qv_jn (fun (M1 : qv_Mem) =>
 some M1) (fun k2 =>
 qv_lp3 (b_X6_shorten_4 t T k2) qv_N 1 0 M)
noncomputable def f_X9_shorter (T : List qv_Ent) (t : Nat) (p1 : Int32) (M : qv_Mem) : Option (Int32 × qv_Mem) :=
 qv_bo (f_X9_isWord p1) (fun v1 =>
 (if v1 = 0 then
 some ((-1), M)
 else
 qv_gd (qv_inb p1 3) (
 qv_bo (f_X6_makeCopy T (qv_rf T t 9) (qv_rf T (qv_rf T (qv_rf T t 0) 1) p1.toNatClampNeg) M) (fun M3 =>
 qv_bo (f_X6_shorten T (qv_rf T t 9) M3) (fun M4 =>
 qv_bp (f_X9_settleWord T t p1 M4) (fun v5 M6 =>
 some (v5, M6)))))))
noncomputable def f_X4_takeAway (T : List qv_Ent) (t : Nat) (p1 : Int32) (M : qv_Mem) : Option qv_Mem :=
 qv_jn (fun (M1 : qv_Mem) =>
 qv_jn (fun (M3 : qv_Mem) =>
 qv_bo (f_X7_applyAhead T (qv_rf T t 1) 6 M3) (fun M5 =>
 some M5)) (fun k4 =>
 (if p1 < 1 then
 k4 M1
 else
 qv_bo (f_X7_applyAhead T (qv_rf T t 1) 0 M1) (fun M6 =>
 k4 M6)))) (fun k2 =>
 (if p1 = 2 then
 qv_bo (f_X7_applyAhead T (qv_rf T t 1) 2 M) (fun M7 =>
 qv_bo (f_X7_applyAhead T (qv_rf T t 1) 4 M7) (fun M8 =>
 k2 M8))
 else
 k2 M))
noncomputable def b_X4_findSyllable_2 (t : Nat) (p1 : Int32) (T : List qv_Ent) (k2 : qv_Mem → Option (Int32 × qv_Mem)) : (Int32 → qv_Mem → Option (Int32 × qv_Mem)) → Int32 → qv_Mem → Option (Int32 × qv_Mem) := fun r5 v3 M4 =>
 (if 3 ≤ v3 then
 k2 M4
 else
 qv_bo (f_X7_makeCopy T (qv_rf T t 1) (qv_rf T t 0) M4) (fun M6 =>
 qv_bo (f_X4_takeAway T t v3 M6) (fun M7 =>
 qv_bo (f_X1_makeOf T (qv_rf T t 2) (qv_rf T t 1) M7) (fun M8 =>
 qv_gS (qv_rf T t 2) 2 M8 (fun v9 =>
 (if v9 = (p1 - 1) then
 some (v3, M8)
 else
 r5 (v3 + 1) M8))))))
noncomputable def f_X4_findSyllable (T : List qv_Ent) (t : Nat) (p1 : Int32) (M : qv_Mem) : Option (Int32 × qv_Mem) :=
 qv_jn (fun (M1 : qv_Mem) =>
 some ((-2), M1)) (fun k2 =>
 qv_lp2 (b_X4_findSyllable_2 t p1 T k2) qv_N 0 M)
noncomputable def f_X4_addSyllable (T : List qv_Ent) (t0 : Nat) (p1 : Int32) (M : qv_Mem) : Option (Int32 × qv_Mem) :=
 qv_jn (fun (v1 : Int32) (M2 : qv_Mem) =>
 qv_jn (fun (v4 : Int32) (M5 : qv_Mem) =>
 (if v4 = 0 then
 some (0, M5)
 else
 qv_bp (f_X6_add T t0 1 M5) (fun v7 M8 =>
 (if v7 = 0 then
 some (0, M8)
 else
 some (1, M8))))) (fun k6 =>
 (if v1 = 0 then
 k6 0 M2
 else
 (if p1 < 1 then
 k6 1 M2
 else
 qv_bp (f_X6_add T t0 0 M2) (fun v9 M10 =>
 (if v9 = 0 then
 k6 0 M10
 else
 k6 1 M10)))))) (fun k3 =>
 (if p1 < 2 then
 k3 1 M
 else
 qv_bp (f_X6_add T t0 2 M) (fun v11 M12 =>
 (if v11 = 0 then
 k3 0 M12
 else
 k3 1 M12))))
noncomputable def b_X4_addCheapest_25 (t1 : Nat) (t2 : Nat) (T : List qv_Ent) (v2 : Int32) (k4 : qv_Mem → Option (Int32 × qv_Mem)) : (Int32 → Int32 → qv_Mem → Option (Int32 × qv_Mem)) → Int32 → Int32 → qv_Mem → Option (Int32 × qv_Mem) := fun r8 v5 v6 M7 =>
 (if v2 ≤ v6 then
 k4 M7
 else
 qv_bo (f_X2_firstGateOf T t2 v5 M7) (fun v9 =>
 qv_bp (f_X6_add T t1 v9 M7) (fun v10 M11 =>
 (if v10 = 0 then
 some (0, M11)
 else
 qv_bo (f_X2_restOf T t2 v5 M11) (fun v12 =>
 r8 v12 (v6 + 1) M11)))))
noncomputable def f_X4_addCheapest (T : List qv_Ent) (t : Nat) (t1 : Nat) (t2 : Nat) (M : qv_Mem) : Option (Int32 × qv_Mem) :=
 qv_bo (f_X2_find T t2 (qv_rf T t 0) M) (fun v1 =>
 (if 0 ≤ v1 then
 qv_bo (f_X2_lengthOf T t2 v1 M) (fun v2 =>
 qv_jn (fun (M3 : qv_Mem) =>
 some (1, M3)) (fun k4 =>
 qv_lp3 (b_X4_addCheapest_25 t1 t2 T v2 k4) qv_N v1 0 M))
 else
 some (0, M)))
noncomputable def b_X4_form_36 (t : Nat) (t3 : Nat) (T : List qv_Ent) (k7 : Int32 → qv_Mem → Option (Int32 × qv_Mem)) : (Int32 → Int32 → qv_Mem → Option (Int32 × qv_Mem)) → Int32 → Int32 → qv_Mem → Option (Int32 × qv_Mem) := fun r13 v10 v11 M12 =>
 (if 60 ≤ v11 then
 k7 v10 M12
 else
 (if v10 ≤ 0 then
 k7 v10 M12
 else
 qv_bp (f_X4_findSyllable T t v10 M12) (fun v14 M15 =>
 (if v14 < 0 then
 some (0, M15)
 else
 qv_bp (f_X4_addSyllable T t3 v14 M15) (fun v16 M17 =>
 (if v16 = 0 then
 some (0, M17)
 else
 qv_bo (f_X7_makeCopy T (qv_rf T t 0) (qv_rf T t 1) M17) (fun M18 =>
 r13 (v10 + (-1)) (v11 + 1) M18)))))))
noncomputable def f_X4_form (T : List qv_Ent) (t : Nat) (t1 : Nat) (t2 : Nat) (t3 : Nat) (M : qv_Mem) : Option (Int32 × qv_Mem) :=
 qv_pS t3 1 0 M (fun M1 =>
 qv_bo (f_X7_makeCopy T (qv_rf T t 0) t1 M1) (fun M2 =>
 qv_bo (f_X1_makeOf T (qv_rf T t 2) (qv_rf T t 0) M2) (fun M3 =>
 qv_gS (qv_rf T t 2) 2 M3 (fun v4 =>
 qv_jn (fun (v5 : Int32) (M6 : qv_Mem) =>
 (if v5 = 0 then
 qv_bp (f_X4_addCheapest T t t3 t2 M6) (fun v8 M9 =>
 (if v8 = 0 then
 some (0, M9)
 else
 some (1, M9)))
 else
 some (0, M6))) (fun k7 =>
 qv_lp3 (b_X4_form_36 t t3 T k7) qv_N v4 0 M3)))))
noncomputable def f_X9_normal (T : List qv_Ent) (t : Nat) (p1 : Int32) (p2 : Int32) (M : qv_Mem) : Option (Int32 × qv_Mem) :=
 qv_bo (f_X9_isWord p1) (fun v1 =>
 (if v1 = 0 then
 some ((-1), M)
 else
 qv_bo (f_X9_isRegister p2) (fun v2 =>
 (if v2 = 0 then
 some ((-1), M)
 else
 qv_bo (f_X2_rankBy T (qv_rf T t 6) (qv_rf T (qv_rf T t 0) 2) M) (fun M3 =>
 qv_gd (qv_inb p2 4) (
 qv_bp (f_X4_form T (qv_rf T t 8) (qv_rf T (qv_rf T (qv_rf T t 0) 0) p2.toNatClampNeg) (qv_rf T t 6) (qv_rf T t 9) M3) (fun v5 M6 =>
 (if v5 = 0 then
 some ((-3), M6)
 else
 qv_bp (f_X9_settleWord T t p1 M6) (fun v7 M8 =>
 some (v7, M8))))))))))
noncomputable def b_X9_fits_94 (t : Nat) (p3 : Int32) (T : List qv_Ent) (k14 : Int32 → qv_Mem → Option (Int32 × qv_Mem)) : (Int32 → Int32 → qv_Mem → Option (Int32 × qv_Mem)) → Int32 → Int32 → qv_Mem → Option (Int32 × qv_Mem) := fun r18 v15 v16 M17 =>
 (if 7 ≤ v16 then
 k14 v15 M17
 else
 qv_bo (f_X7_makeCopy T (qv_rf T t 13) (qv_rf T t 11) M17) (fun M19 =>
 qv_bo (f_X7_applyBehind T (qv_rf T t 13) v16 M19) (fun M20 =>
 qv_bo (f_X7_makeProduct T (qv_rf T t 10) (qv_rf T t 13) (qv_rf T t 12) M20) (fun M21 =>
 qv_bo (f_X7_lower T (qv_rf T t 10) M21) (fun M22 =>
 qv_gd (qv_inb p3 4) (
 qv_bo (f_X7_isSame T (qv_rf T t 10) (qv_rf T (qv_rf T (qv_rf T t 0) 0) p3.toNatClampNeg) M22) (fun v24 =>
 qv_jn (fun (v25 : Int32) =>
 r18 v25 (v16 + 1) M22) (fun k26 =>
 (if v24 = 0 then
 k26 v15
 else
 k26 (v15 ||| (1 <<< (v16 &&& 31))))))))))))
noncomputable def f_X9_fits (T : List qv_Ent) (t : Nat) (p1 : Int32) (p2 : Int32) (p3 : Int32) (M : qv_Mem) : Option (Int32 × qv_Mem) :=
 qv_bo (f_X9_isWord p1) (fun v1 =>
 (if v1 = 0 then
 some ((-1), M)
 else
 qv_gd (qv_inb p1 3) (
 qv_gS (qv_rf T (qv_rf T (qv_rf T t 0) 1) p1.toNatClampNeg) 1 M (fun v3 =>
 qv_bo (f_X9_isBelow p2 v3) (fun v4 =>
 (if v4 = 0 then
 some ((-1), M)
 else
 qv_bo (f_X9_isRegister p3) (fun v5 =>
 (if v5 = 0 then
 some ((-1), M)
 else
 qv_gd (qv_inb p1 3) (
 qv_bo (f_X7_makeUnit T (qv_rf T t 11) M) (fun M7 =>
 qv_bo (f_X7_applyRow T (qv_rf T t 11) (qv_rf T (qv_rf T (qv_rf T t 0) 1) p1.toNatClampNeg) 0 p2 M7) (fun M8 =>
 qv_bo (f_X7_makeUnit T (qv_rf T t 12) M8) (fun M9 =>
 qv_gS (qv_rf T (qv_rf T (qv_rf T t 0) 1) p1.toNatClampNeg) 1 M9 (fun v10 =>
 qv_bo (f_X7_applyRow T (qv_rf T t 12) (qv_rf T (qv_rf T (qv_rf T t 0) 1) p1.toNatClampNeg) (p2 + 1) v10 M9) (fun M11 =>
 qv_jn (fun (v12 : Int32) (M13 : qv_Mem) =>
 some (v12, M13)) (fun k14 =>
 qv_lp3 (b_X9_fits_94 t p3 T k14) qv_N 0 0 M11)))))))))))))))
noncomputable def b_X9_parts_61 (t : Nat) (p1 : Int32) (p2 : Int32) (T : List qv_Ent) (v6 : Int32) (v8 : Int32) (k10 : qv_Mem → Option (Int32 × qv_Mem)) : (Int32 → qv_Mem → Option (Int32 × qv_Mem)) → Int32 → qv_Mem → Option (Int32 × qv_Mem) := fun r13 v11 M12 =>
 (if (if v6 < v8 then v8 else v6) ≤ v11 then
 k10 M12
 else
 qv_gd (qv_inb p1 3) (
 qv_bo (f_X7_applyRow T (qv_rf T t 11) (qv_rf T (qv_rf T (qv_rf T t 0) 1) p1.toNatClampNeg) v11 (v11 + 1) M12) (fun M15 =>
 qv_gd (qv_inb p2 3) (
 qv_bo (f_X7_applyRow T (qv_rf T t 13) (qv_rf T (qv_rf T (qv_rf T t 0) 1) p2.toNatClampNeg) v11 (v11 + 1) M15) (fun M17 =>
 qv_bo (f_X7_isSame T (qv_rf T t 11) (qv_rf T t 13) M17) (fun v18 =>
 (if v18 = 0 then
 some (v11, M17)
 else
 r13 (v11 + 1) M17)))))))
noncomputable def f_X9_parts (T : List qv_Ent) (t : Nat) (p1 : Int32) (p2 : Int32) (M : qv_Mem) : Option (Int32 × qv_Mem) :=
 qv_bo (f_X9_isWord p1) (fun v1 =>
 (if v1 = 0 then
 some ((-1), M)
 else
 qv_bo (f_X9_isWord p2) (fun v2 =>
 (if v2 = 0 then
 some ((-1), M)
 else
 qv_bo (f_X7_makeUnit T (qv_rf T t 11) M) (fun M3 =>
 qv_bo (f_X7_makeUnit T (qv_rf T t 13) M3) (fun M4 =>
 qv_gd (qv_inb p1 3) (
 qv_gS (qv_rf T (qv_rf T (qv_rf T t 0) 1) p1.toNatClampNeg) 1 M4 (fun v6 =>
 qv_gd (qv_inb p2 3) (
 qv_gS (qv_rf T (qv_rf T (qv_rf T t 0) 1) p2.toNatClampNeg) 1 M4 (fun v8 =>
 qv_jn (fun (M9 : qv_Mem) =>
 some ((-2), M9)) (fun k10 =>
 qv_lp2 (b_X9_parts_61 t p1 p2 T v6 v8 k10) qv_N 0 M4)))))))))))
noncomputable def f_X3_giveBack (T : List qv_Ent) (t : Nat) (t1 : Nat) (M : qv_Mem) : Option qv_Mem :=
 qv_gS t 3 M (fun v1 =>
 (if v1 = 0 then
 some M
 else
 qv_gS t 2 M (fun v2 =>
 qv_pS t 2 (((v2 + 8) - 1) - ((v2 + 8) - 1) / 8 * 8) M (fun M3 =>
 qv_gS t 3 M3 (fun v4 =>
 qv_pS t 3 (v4 - 1) M3 (fun M5 =>
 qv_gS t 2 M5 (fun v6 =>
 qv_ldI 8 (qv_rf T t 1) v6 M5 (fun v7 =>
 qv_gd (qv_inb v7 3) (
 qv_gS t 2 M5 (fun v9 =>
 qv_gd (qv_inb v9 8) (
 qv_bo (f_X6_makeCopy T (qv_rf T t1 v7.toNatClampNeg) (qv_rf T (qv_rf T t 0) v9.toNatClampNeg) M5) (fun M11 =>
 some M11))))))))))))
noncomputable def f_X9_undo (T : List qv_Ent) (t : Nat) (M : qv_Mem) : Option (Int32 × qv_Mem) :=
 qv_gS (qv_rf T t 3) 3 M (fun v1 =>
 (if v1 = 0 then
 some ((-5), M)
 else
 qv_bo (f_X3_giveBack T (qv_rf T t 3) (qv_rf T (qv_rf T t 0) 1) M) (fun M2 =>
 qv_gS (qv_rf T t 3) 3 M2 (fun v3 =>
 some (v3, M2)))))
noncomputable def f_X8_add (T : List qv_Ent) (t : Nat) (p1 : Int32) (M : qv_Mem) : Option (Int32 × qv_Mem) :=
 qv_gS t 1 M (fun v1 =>
 (if v1 < 80 then
 qv_gS t 1 M (fun v2 =>
 qv_stI 80 (qv_rf T t 0) v2 p1 M (fun M3 =>
 qv_gS t 1 M3 (fun v4 =>
 qv_pS t 1 (v4 + 1) M3 (fun M5 =>
 some (1, M5)))))
 else
 some (0, M)))
noncomputable def f_X9_feed (T : List qv_Ent) (t : Nat) (p1 : Int32) (M : qv_Mem) : Option (Int32 × qv_Mem) :=
 (if p1 < 32 then
 some ((-1), M)
 else
 (if p1 ≤ 126 then
 qv_bp (f_X8_add T (qv_rf T t 4) p1 M) (fun v1 M2 =>
 (if v1 = 0 then
 some ((-3), M2)
 else
 qv_gS (qv_rf T t 4) 1 M2 (fun v3 =>
 some (v3, M2))))
 else
 some ((-1), M)))
noncomputable def f_X9_wipe (T : List qv_Ent) (t : Nat) (M : qv_Mem) : Option (Int32 × qv_Mem) :=
 qv_gS (qv_rf T t 4) 1 M (fun v1 =>
 qv_pS (qv_rf T t 4) 1 0 M (fun M2 =>
 some (v1, M2)))
noncomputable def f_X9_gateOfLetter (p0 : Int32) : Option Int32 :=
 (if p0 = 72 then
 some 0
 else
 (if p0 = 83 then
 some 2
 else
 (if p0 = 84 then
 some 1
 else
 (if p0 = 85 then
 some 6
 else
 (if p0 = 87 then
 some 5
 else
 (if p0 = 88 then
 some 3
 else
 (if p0 = 90 then
 some 4
 else
 some (-2))))))))
noncomputable def f_X8_at (T : List qv_Ent) (t : Nat) (p1 : Int32) (M : qv_Mem) : Option Int32 :=
 qv_gS t 1 M (fun v1 =>
 qv_bo (f_X9_isBelow p1 v1) (fun v2 =>
 (if v2 = 0 then
 some (-2)
 else
 qv_ldI 80 (qv_rf T t 0) p1 M (fun v3 =>
 some v3))))
noncomputable def f_X8_figureAt (T : List qv_Ent) (t : Nat) (p1 : Int32) (M : qv_Mem) : Option Int32 :=
 qv_bo (f_X8_at T t p1 M) (fun v1 =>
 (if v1 < 48 then
 some (-2)
 else
 (if 57 < v1 then
 some (-2)
 else
 some (v1 - 48))))
noncomputable def b_X8_findFault_6 (t : Nat) (M : qv_Mem) (T : List qv_Ent) (k3 : Int32 → Int32 → Option Int32) : (Int32 → Int32 → Int32 → Option Int32) → Int32 → Int32 → Int32 → Option Int32 := fun r9 v6 v7 v8 =>
 qv_gS t 1 M (fun v10 =>
 (if v10 ≤ v8 then
 k3 v6 v7
 else
 qv_ldI 80 (qv_rf T t 0) v8 M (fun v11 =>
 qv_bo (f_X9_gateOfLetter v11) (fun v12 =>
 qv_jn (fun (v13 : Int32) (v14 : Int32) =>
 r9 v13 v14 (v8 + 1)) (fun k15 =>
 (if v12 < 0 then
 (if v11 = 126 then
 k15 v6 1
 else
 qv_jn (fun (_ : Unit) =>
 qv_jn (fun (_ : Unit) =>
 qv_bo (f_X8_figureAt T t v8 M) (fun v18 =>
 (if v18 < 0 then
 some v8
 else
 qv_bo (f_X8_at T t (v8 - 1) M) (fun v19 =>
 (if v19 = 41 then
 k15 v6 v7
 else
 some v8))))) (fun k17 =>
 (if v11 = 41 then
 (if v6 ≤ 0 then
 k17 ()
 else
 (if v7 = 0 then
 k15 (v6 + (-1)) v7
 else
 k17 ()))
 else
 k17 ()))) (fun k16 =>
 (if v11 = 40 then
 (if 4 ≤ v6 then
 k16 ()
 else
 k15 (v6 + 1) 1)
 else
 k16 ())))
 else
 k15 v6 0))))))
noncomputable def f_X8_findFault (T : List qv_Ent) (t : Nat) (M : qv_Mem) : Option Int32 :=
 qv_jn (fun (v1 : Int32) (v2 : Int32) =>
 qv_jn (fun (_ : Unit) =>
 qv_gS t 1 M (fun v5 =>
 some v5)) (fun k4 =>
 (if v2 = 0 then
 (if v1 ≤ 0 then
 some (-2)
 else
 k4 ())
 else
 k4 ()))) (fun k3 =>
 qv_lp3 (b_X8_findFault_6 t M T k3) qv_N 0 1 0)
noncomputable def f_X5_isHeld (T : List qv_Ent) (t : Nat) (p1 : Int32) (p2 : Int32) (M : qv_Mem) : Option Int32 :=
 qv_gS t 5 M (fun v1 =>
 qv_ldI 5 (qv_rf T t 2) v1 M (fun v2 =>
 (if 60 < ((p1 - v2) + p2) then
 some 0
 else
 some 1)))
noncomputable def f_X5_widthOf (p0 : Int32) : Option Int32 :=
 (if p0 = 2 then
 some 2
 else
 (if p0 = 5 then
 some 7
 else
 some 1))
noncomputable def f_X5_turnedGate (p0 : Int32) (p1 : Int32) : Option Int32 :=
 (if p0 = 1 then
 some 6
 else
 (if p0 = 2 then
 (if p1 = 0 then
 some 2
 else
 some 4)
 else
 (if p0 = 6 then
 some 1
 else
 some p0)))
noncomputable def b_X5_turnOnce_102 (t : Nat) (T : List qv_Ent) (v9 : Int32) (v13 : Int32) (k15 : qv_Mem → Option (Int32 × qv_Mem)) : (Int32 → qv_Mem → Option (Int32 × qv_Mem)) → Int32 → qv_Mem → Option (Int32 × qv_Mem) := fun r18 v16 M17 =>
 (if v13 ≤ v16 then
 k15 M17
 else
 qv_gS t 4 M17 (fun v19 =>
 (if 300 ≤ v19 then
 k15 M17
 else
 qv_gS t 4 M17 (fun v20 =>
 qv_ldI 60 (qv_rf T t 1) v9 M17 (fun v21 =>
 qv_bo (f_X5_turnedGate v21 v16) (fun v22 =>
 qv_stI 300 (qv_rf T t 0) v20 v22 M17 (fun M23 =>
 qv_gS t 4 M23 (fun v24 =>
 qv_pS t 4 (v24 + 1) M23 (fun M25 =>
 r18 (v16 + 1) M25)))))))))
noncomputable def b_X5_turnOnce_82 (t : Nat) (T : List qv_Ent) (k8 : qv_Mem → Option (Int32 × qv_Mem)) : (Int32 → qv_Mem → Option (Int32 × qv_Mem)) → Int32 → qv_Mem → Option (Int32 × qv_Mem) := fun r11 v9 M10 =>
 (if v9 < 0 then
 k8 M10
 else
 qv_ldI 60 (qv_rf T t 1) v9 M10 (fun v12 =>
 qv_bo (f_X5_widthOf v12) (fun v13 =>
 qv_jn (fun (M14 : qv_Mem) =>
 r11 (v9 + (-1)) M14) (fun k15 =>
 qv_lp2 (b_X5_turnOnce_102 t T v9 v13 k15) qv_N 0 M10))))
noncomputable def b_X5_turnOnce_20 (t : Nat) (p1 : Int32) (T : List qv_Ent) (v1 : Int32) (k4 : Int32 → qv_Mem → Option (Int32 × qv_Mem)) : (Int32 → Int32 → qv_Mem → Option (Int32 × qv_Mem)) → Int32 → Int32 → qv_Mem → Option (Int32 × qv_Mem) := fun r29 v26 v27 M28 =>
 (if (v1 - p1) ≤ v27 then
 k4 v26 M28
 else
 qv_ldI 300 (qv_rf T t 0) (p1 + v27) M28 (fun v30 =>
 qv_stI 60 (qv_rf T t 1) v27 v30 M28 (fun M31 =>
 qv_ldI 60 (qv_rf T t 1) v27 M31 (fun v32 =>
 qv_bo (f_X5_widthOf v32) (fun v33 =>
 r29 (v26 + v33) (v27 + 1) M31)))))
noncomputable def f_X5_turnOnce (T : List qv_Ent) (t : Nat) (p1 : Int32) (M : qv_Mem) : Option (Int32 × qv_Mem) :=
 qv_gS t 4 M (fun v1 =>
 (if (v1 - p1) ≤ 60 then
 qv_jn (fun (v2 : Int32) (M3 : qv_Mem) =>
 qv_bo (f_X5_isHeld T t p1 v2 M3) (fun v5 =>
 (if v5 = 0 then
 some (0, M3)
 else
 qv_pS t 4 p1 M3 (fun M6 =>
 qv_jn (fun (M7 : qv_Mem) =>
 some (1, M7)) (fun k8 =>
 qv_lp2 (b_X5_turnOnce_82 t T k8) qv_N ((v1 - p1) - 1) M6))))) (fun k4 =>
 qv_lp3 (b_X5_turnOnce_20 t p1 T v1 k4) qv_N 0 0 M)
 else
 some (0, M)))
noncomputable def b_X5_turnItem_12 (t : Nat) (p1 : Int32) (T : List qv_Ent) (v1 : Int32) (k4 : qv_Mem → Option (Int32 × qv_Mem)) : (Int32 → qv_Mem → Option (Int32 × qv_Mem)) → Int32 → qv_Mem → Option (Int32 × qv_Mem) := fun r7 v5 M6 =>
 (if v1 ≤ v5 then
 k4 M6
 else
 qv_bp (f_X5_turnOnce T t p1 M6) (fun v8 M9 =>
 (if v8 = 0 then
 some (0, M9)
 else
 r7 (v5 + 1) M9)))
noncomputable def f_X5_turnItem (T : List qv_Ent) (t : Nat) (p1 : Int32) (M : qv_Mem) : Option (Int32 × qv_Mem) :=
 qv_gS t 6 M (fun v1 =>
 qv_pS t 6 0 M (fun M2 =>
 qv_jn (fun (M3 : qv_Mem) =>
 some (1, M3)) (fun k4 =>
 qv_lp2 (b_X5_turnItem_12 t p1 T v1 k4) qv_N 0 M2)))
noncomputable def f_X5_readGate (T : List qv_Ent) (t : Nat) (p1 : Int32) (M : qv_Mem) : Option (Int32 × qv_Mem) :=
 qv_gS t 4 M (fun v1 =>
 qv_bo (f_X5_isHeld T t v1 1 M) (fun v2 =>
 (if v2 = 0 then
 some (0, M)
 else
 qv_gS t 4 M (fun v3 =>
 qv_stI 300 (qv_rf T t 0) v3 p1 M (fun M4 =>
 qv_gS t 4 M4 (fun v5 =>
 qv_pS t 4 (v5 + 1) M4 (fun M6 =>
 qv_bp (f_X5_turnItem T t v1 M6) (fun v7 M8 =>
 qv_gd (qv_01 v7) (some (v7, M8))))))))))
noncomputable def f_X5_openGroup (T : List qv_Ent) (t : Nat) (M : qv_Mem) : Option (Int32 × qv_Mem) :=
 qv_gS t 5 M (fun v1 =>
 (if v1 < 4 then
 qv_gS t 5 M (fun v2 =>
 qv_gS t 6 M (fun v3 =>
 qv_stI 5 (qv_rf T t 3) v2 v3 M (fun M4 =>
 qv_pS t 6 0 M4 (fun M5 =>
 qv_gS t 5 M5 (fun v6 =>
 qv_pS t 5 (v6 + 1) M5 (fun M7 =>
 qv_gS t 5 M7 (fun v8 =>
 qv_gS t 4 M7 (fun v9 =>
 qv_stI 5 (qv_rf T t 2) v8 v9 M7 (fun M10 =>
 some (1, M10))))))))))
 else
 some (0, M)))
noncomputable def b_X5_closeGroup_76 (t : Nat) (T : List qv_Ent) (v3 : Int32) (v4 : Int32) (k13 : qv_Mem → Option (Int32 × qv_Mem)) : (Int32 → qv_Mem → Option (Int32 × qv_Mem)) → Int32 → qv_Mem → Option (Int32 × qv_Mem) := fun r18 v16 M17 =>
 qv_gS t 4 M17 (fun v19 =>
 (if v19 ≤ v16 then
 k13 M17
 else
 qv_ldI 300 (qv_rf T t 0) (v16 - (v4 - v3)) M17 (fun v20 =>
 qv_stI 300 (qv_rf T t 0) v16 v20 M17 (fun M21 =>
 r18 (v16 + 1) M21))))
noncomputable def f_X5_closeGroup (T : List qv_Ent) (t : Nat) (p1 : Int32) (M : qv_Mem) : Option (Int32 × qv_Mem) :=
 qv_gS t 5 M (fun v1 =>
 (if 0 < v1 then
 qv_gS t 5 M (fun v2 =>
 qv_ldI 5 (qv_rf T t 2) v2 M (fun v3 =>
 qv_gS t 4 M (fun v4 =>
 qv_gS t 5 M (fun v5 =>
 qv_pS t 5 (v5 - 1) M (fun M6 =>
 qv_gS t 5 M6 (fun v7 =>
 qv_ldI 5 (qv_rf T t 3) v7 M6 (fun v8 =>
 qv_pS t 6 v8 M6 (fun M9 =>
 qv_bo (f_X5_isHeld T t v3 ((v4 - v3) * p1) M9) (fun v10 =>
 (if v10 = 0 then
 some (0, M9)
 else
 qv_pS t 4 (v3 + ((v4 - v3) * p1)) M9 (fun M11 =>
 qv_jn (fun (M12 : qv_Mem) =>
 qv_bp (f_X5_turnItem T t v3 M12) (fun v14 M15 =>
 qv_gd (qv_01 v14) (some (v14, M15)))) (fun k13 =>
 qv_lp2 (b_X5_closeGroup_76 t T v3 v4 k13) qv_N (v3 + (v4 - v3)) M11))))))))))))
 else
 some (0, M)))
noncomputable def f_X5_readByte (T : List qv_Ent) (t : Nat) (t1 : Nat) (p2 : Int32) (M : qv_Mem) : Option (Int32 × qv_Mem) :=
 qv_bo (f_X8_at T t1 p2 M) (fun v1 =>
 qv_bo (f_X9_gateOfLetter v1) (fun v2 =>
 (if v2 < 0 then
 (if v1 = 126 then
 qv_gS t 6 M (fun v10 =>
 qv_pS t 6 (v10 + 1) M (fun M11 =>
 some (1, M11)))
 else
 (if v1 = 40 then
 qv_bp (f_X5_openGroup T t M) (fun v8 M9 =>
 qv_gd (qv_01 v8) (some (v8, M9)))
 else
 (if v1 = 41 then
 qv_bo (f_X8_figureAt T t1 (p2 + 1) M) (fun v3 =>
 qv_jn (fun (v4 : Int32) =>
 qv_bp (f_X5_closeGroup T t v4 M) (fun v6 M7 =>
 qv_gd (qv_01 v6) (some (v6, M7)))) (fun k5 =>
 (if 0 ≤ v3 then
 k5 v3
 else
 k5 1)))
 else
 some (1, M))))
 else
 qv_bp (f_X5_readGate T t v2 M) (fun v12 M13 =>
 qv_gd (qv_01 v12) (some (v12, M13))))))
noncomputable def b_X5_read_56 (t : Nat) (t2 : Nat) (T : List qv_Ent) (k9 : qv_Mem → Option (Int32 × qv_Mem)) : (Int32 → qv_Mem → Option (Int32 × qv_Mem)) → Int32 → qv_Mem → Option (Int32 × qv_Mem) := fun r12 v10 M11 =>
 qv_gS t 4 M11 (fun v13 =>
 (if v13 ≤ v10 then
 k9 M11
 else
 qv_ldI 300 (qv_rf T t 0) v10 M11 (fun v14 =>
 qv_bp (f_X6_add T t2 v14 M11) (fun v15 M16 =>
 (if v15 = 0 then
 some (0, M16)
 else
 r12 (v10 + 1) M16)))))
noncomputable def b_X5_read_24 (t : Nat) (t1 : Nat) (T : List qv_Ent) (k6 : qv_Mem → Option (Int32 × qv_Mem)) : (Int32 → qv_Mem → Option (Int32 × qv_Mem)) → Int32 → qv_Mem → Option (Int32 × qv_Mem) := fun r19 v17 M18 =>
 qv_gS t1 1 M18 (fun v20 =>
 (if v20 ≤ v17 then
 k6 M18
 else
 qv_bp (f_X5_readByte T t t1 v17 M18) (fun v21 M22 =>
 (if v21 = 0 then
 some (0, M22)
 else
 r19 (v17 + 1) M22))))
noncomputable def f_X5_read (T : List qv_Ent) (t : Nat) (t1 : Nat) (t2 : Nat) (M : qv_Mem) : Option (Int32 × qv_Mem) :=
 qv_pS t 4 0 M (fun M1 =>
 qv_pS t 5 0 M1 (fun M2 =>
 qv_pS t 6 0 M2 (fun M3 =>
 qv_stI 5 (qv_rf T t 2) 0 0 M3 (fun M4 =>
 qv_jn (fun (M5 : qv_Mem) =>
 qv_pS t2 1 0 M5 (fun M7 =>
 qv_jn (fun (M8 : qv_Mem) =>
 some (1, M8)) (fun k9 =>
 qv_lp2 (b_X5_read_56 t t2 T k9) qv_N 0 M7))) (fun k6 =>
 qv_lp2 (b_X5_read_24 t t1 T k6) qv_N 0 M4)))))
noncomputable def f_X9_write (T : List qv_Ent) (t : Nat) (p1 : Int32) (M : qv_Mem) : Option (Int32 × qv_Mem) :=
 qv_bo (f_X9_isWord p1) (fun v1 =>
 (if v1 = 0 then
 some ((-1), M)
 else
 qv_bo (f_X8_findFault T (qv_rf T t 4) M) (fun v2 =>
 qv_jn (fun (v3 : Int32) (M4 : qv_Mem) =>
 qv_pS (qv_rf T t 4) 1 0 M4 (fun M6 =>
 (if v2 < 0 then
 (if v3 = 0 then
 some ((-3), M6)
 else
 qv_bp (f_X9_settleWord T t p1 M6) (fun v7 M8 =>
 some (v7, M8)))
 else
 some (((-100) - v2), M6)))) (fun k5 =>
 (if 0 ≤ v2 then
 k5 0 M
 else
 qv_bp (f_X5_read T (qv_rf T t 5) (qv_rf T t 4) (qv_rf T t 9) M) (fun v9 M10 =>
 (if v9 = 0 then
 k5 0 M10
 else
 k5 1 M10)))))))
noncomputable def b_X0_makeCopy_30 (t : Nat) (t1 : Nat) (T : List qv_Ent) (k4 : qv_Mem → Option qv_Mem) : (Int32 → qv_Mem → Option qv_Mem) → Int32 → qv_Mem → Option qv_Mem := fun r8 v6 M7 =>
 (if 3 ≤ v6 then
 k4 M7
 else
 qv_gd (qv_inb v6 3) (
 qv_gd (qv_inb v6 3) (
 qv_bo (f_X6_makeCopy T (qv_rf T (qv_rf T t 1) v6.toNatClampNeg) (qv_rf T (qv_rf T t1 1) v6.toNatClampNeg) M7) (fun M11 =>
 r8 (v6 + 1) M11))))
noncomputable def b_X0_makeCopy_2 (t : Nat) (t1 : Nat) (T : List qv_Ent) (k2 : qv_Mem → Option qv_Mem) : (Int32 → qv_Mem → Option qv_Mem) → Int32 → qv_Mem → Option qv_Mem := fun r14 v12 M13 =>
 (if 4 ≤ v12 then
 k2 M13
 else
 qv_gd (qv_inb v12 4) (
 qv_gd (qv_inb v12 4) (
 qv_bo (f_X7_makeCopy T (qv_rf T (qv_rf T t 0) v12.toNatClampNeg) (qv_rf T (qv_rf T t1 0) v12.toNatClampNeg) M13) (fun M17 =>
 r14 (v12 + 1) M17))))
noncomputable def f_X0_makeCopy (T : List qv_Ent) (t : Nat) (t1 : Nat) (M : qv_Mem) : Option qv_Mem :=
 qv_jn (fun (M1 : qv_Mem) =>
 qv_jn (fun (M3 : qv_Mem) =>
 qv_cc 7 0 7 0 7 (qv_jn (qv_cpI M3 (qv_rf T t1 2) (qv_rf T t 2) (0 : Int32).toNatClampNeg (0 : Int32).toNatClampNeg (7 : Int32).toNatClampNeg) fun M5 =>
 some M5)) (fun k4 =>
 qv_lp2 (b_X0_makeCopy_30 t t1 T k4) qv_N 0 M1)) (fun k2 =>
 qv_lp2 (b_X0_makeCopy_2 t t1 T k2) qv_N 0 M)
noncomputable def b_X0_countGates_13 (t : Nat) (M : qv_Mem) (T : List qv_Ent) (k2 : Int32 → Option Int32) : (Int32 → Int32 → Option Int32) → Int32 → Int32 → Option Int32 := fun r5 v3 v4 =>
 (if 3 ≤ v4 then
 k2 v3
 else
 qv_gd (qv_inb v4 3) (
 qv_gS (qv_rf T (qv_rf T t 1) v4.toNatClampNeg) 1 M (fun v7 =>
 r5 (v3 + v7) (v4 + 1))))
noncomputable def f_X0_countGates (T : List qv_Ent) (t : Nat) (M : qv_Mem) : Option Int32 :=
 qv_jn (fun (v1 : Int32) =>
 some v1) (fun k2 =>
 qv_lp2 (b_X0_countGates_13 t M T k2) qv_N 0 0)
noncomputable def f_X9_image (T : List qv_Ent) (t : Nat) (M : qv_Mem) : Option (Int32 × qv_Mem) :=
 qv_bo (f_X0_makeCopy T (qv_rf T t 1) (qv_rf T t 0) M) (fun M1 =>
 qv_pZ t 2 1 M1 (fun M2 =>
 qv_bo (f_X0_countGates T (qv_rf T t 0) M2) (fun v3 =>
 some (v3, M2))))
noncomputable def f_X9_restore (T : List qv_Ent) (t : Nat) (M : qv_Mem) : Option (Int32 × qv_Mem) :=
 qv_gS t 2 M (fun v1 =>
 (if v1 = 0 then
 some ((-5), M)
 else
 qv_bo (f_X0_makeCopy T (qv_rf T t 0) (qv_rf T t 1) M) (fun M2 =>
 qv_pS (qv_rf T t 3) 3 0 M2 (fun M3 =>
 qv_bo (f_X0_countGates T (qv_rf T t 0) M3) (fun v4 =>
 some (v4, M3))))))
noncomputable def b_X0_sumPrices_13 (t : Nat) (M : qv_Mem) (T : List qv_Ent) (k2 : Int32 → Option Int32) : (Int32 → Int32 → Option Int32) → Int32 → Int32 → Option Int32 := fun r5 v3 v4 =>
 (if 7 ≤ v4 then
 k2 v3
 else
 qv_ldI 7 (qv_rf T t 2) v4 M (fun v6 =>
 r5 (v3 + v6) (v4 + 1)))
noncomputable def f_X0_sumPrices (T : List qv_Ent) (t : Nat) (M : qv_Mem) : Option Int32 :=
 qv_jn (fun (v1 : Int32) =>
 some v1) (fun k2 =>
 qv_lp2 (b_X0_sumPrices_13 t M T k2) qv_N 0 0)
noncomputable def b_X6_countOf_4 (t : Nat) (p1 : Int32) (M : qv_Mem) (T : List qv_Ent) (k2 : Int32 → Option Int32) : (Int32 → Int32 → Option Int32) → Int32 → Int32 → Option Int32 := fun r5 v3 v4 =>
 qv_gS t 1 M (fun v6 =>
 (if v6 ≤ v4 then
 k2 v3
 else
 qv_ldI 60 (qv_rf T t 0) v4 M (fun v7 =>
 qv_jn (fun (v8 : Int32) =>
 r5 v8 (v4 + 1)) (fun k9 =>
 (if v7 = p1 then
 k9 (v3 + 1)
 else
 k9 v3)))))
noncomputable def f_X6_countOf (T : List qv_Ent) (t : Nat) (p1 : Int32) (M : qv_Mem) : Option Int32 :=
 qv_jn (fun (v1 : Int32) =>
 some v1) (fun k2 =>
 qv_lp2 (b_X6_countOf_4 t p1 M T k2) qv_N 0 0)
noncomputable def b_X0_countGate_14 (t : Nat) (p1 : Int32) (M : qv_Mem) (T : List qv_Ent) (k2 : Int32 → Option Int32) : (Int32 → Int32 → Option Int32) → Int32 → Int32 → Option Int32 := fun r5 v3 v4 =>
 (if 3 ≤ v4 then
 k2 v3
 else
 qv_gd (qv_inb v4 3) (
 qv_bo (f_X6_countOf T (qv_rf T (qv_rf T t 1) v4.toNatClampNeg) p1 M) (fun v7 =>
 r5 (v3 + v7) (v4 + 1))))
noncomputable def f_X0_countGate (T : List qv_Ent) (t : Nat) (p1 : Int32) (M : qv_Mem) : Option Int32 :=
 qv_jn (fun (v1 : Int32) =>
 some v1) (fun k2 =>
 qv_lp2 (b_X0_countGate_14 t p1 M T k2) qv_N 0 0)
noncomputable def f_X9_told (T : List qv_Ent) (t : Nat) (p1 : Int32) (M : qv_Mem) : Option Int32 :=
 (if p1 = 0 then
 qv_gS (qv_rf T t 3) 3 M (fun v1 =>
 some v1)
 else
 (if p1 = 1 then
 qv_gS (qv_rf T t 4) 1 M (fun v4 =>
 some v4)
 else
 (if p1 = 2 then
 qv_bo (f_X0_sumPrices T (qv_rf T t 0) M) (fun v7 =>
 some v7)
 else
 qv_bo (f_X9_isGate (p1 - 3)) (fun v10 =>
 (if v10 = 0 then
 some (-1)
 else
 qv_bo (f_X0_countGate T (qv_rf T t 0) (p1 - 3) M) (fun v11 =>
 some v11))))))
noncomputable def f_X10_number (T : List qv_Ent) (t : Nat) (p1 : Int32) (p2 : Int32) (p3 : Int32) (p4 : Int64) (M : qv_Mem) : Option qv_Mem :=
 qv_stL 340 (qv_rf T t 0) (((17 * p1) + (4 * p2)) + p3) p4 M (fun M1 =>
 some M1)
noncomputable def b_X10_copies_2 (t : Nat) (p1 : Int32) (p2 : Int32) (T : List qv_Ent) (k2 : qv_Mem → Option qv_Mem) : (Int32 → qv_Mem → Option qv_Mem) → Int32 → qv_Mem → Option qv_Mem := fun r5 v3 M4 =>
 (if 17 ≤ v3 then
 k2 M4
 else
 qv_ldL 340 (qv_rf T t 0) ((17 * p1) + v3) M4 (fun v6 =>
 qv_stL 340 (qv_rf T t 0) ((17 * p2) + v3) v6 M4 (fun M7 =>
 r5 (v3 + 1) M7)))
noncomputable def f_X10_copies (T : List qv_Ent) (t : Nat) (p1 : Int32) (p2 : Int32) (M : qv_Mem) : Option qv_Mem :=
 qv_jn (fun (M1 : qv_Mem) =>
 some M1) (fun k2 =>
 qv_lp2 (b_X10_copies_2 t p1 p2 T k2) qv_N 0 M)
noncomputable def b_X10_gates_60 (t : Nat) (T : List qv_Ent) (k7 : qv_Mem → Option qv_Mem) : (Int32 → qv_Mem → Option qv_Mem) → Int32 → qv_Mem → Option qv_Mem := fun r20 v18 M19 =>
 (if 7 ≤ v18 then
 k7 M19
 else
 qv_jn (fun (M21 : qv_Mem) =>
 r20 (v18 + 1) M21) (fun k22 =>
 (if v18 = 0 then
 k22 M19
 else
 (if v18 = 3 then
 k22 M19
 else
 (if v18 = 5 then
 k22 M19
 else
 qv_bo (f_X10_number T t (4 + v18) 0 0 1 M19) (fun M23 =>
 k22 M23))))))
noncomputable def b_X10_gates_2 (t : Nat) (T : List qv_Ent) (k2 : qv_Mem → Option qv_Mem) : (Int32 → qv_Mem → Option qv_Mem) → Int32 → qv_Mem → Option qv_Mem := fun r26 v24 M25 =>
 (if 4 ≤ v24 then
 k2 M25
 else
 qv_jn (fun (v27 : Int64) =>
 qv_bo (f_X10_number T t 4 v24 0 v27 M25) (fun M29 =>
 r26 (v24 + 1) M29)) (fun k28 =>
 (if v24 = 3 then
 k28 (-1)
 else
 k28 1)))
noncomputable def f_X10_gates (T : List qv_Ent) (t : Nat) (M : qv_Mem) : Option qv_Mem :=
 qv_jn (fun (M1 : qv_Mem) =>
 qv_stL 340 (qv_rf T t 0) 84 1 M1 (fun M3 =>
 qv_bo (f_X10_number T t 7 1 0 1 M3) (fun M4 =>
 qv_bo (f_X10_number T t 7 2 0 1 M4) (fun M5 =>
 qv_jn (fun (M6 : qv_Mem) =>
 qv_bo (f_X10_number T t 5 3 1 1 M6) (fun M8 =>
 qv_bo (f_X10_number T t 6 3 2 1 M8) (fun M9 =>
 qv_bo (f_X10_number T t 8 3 0 (-1) M9) (fun M10 =>
 qv_bo (f_X10_number T t 9 0 1 1 M10) (fun M11 =>
 qv_bo (f_X10_number T t 9 3 1 1 M11) (fun M12 =>
 qv_bo (f_X10_number T t 10 3 3 (-1) M12) (fun M13 =>
 qv_bo (f_X10_copies T t 7 11 M13) (fun M14 =>
 qv_bo (f_X10_number T t 12 1 2 (-1) M14) (fun M15 =>
 qv_bo (f_X10_number T t 12 2 2 1 M15) (fun M16 =>
 qv_bo (f_X10_copies T t 8 13 M16) (fun M17 =>
 some M17))))))))))) (fun k7 =>
 qv_lp2 (b_X10_gates_60 t T k7) qv_N 0 M5))))) (fun k2 =>
 qv_lp2 (b_X10_gates_2 t T k2) qv_N 0 M)
noncomputable def b_X10_saves_2 (t : Nat) (p1 : Int32) (T : List qv_Ent) (k2 : qv_Mem → Option qv_Mem) : (Int32 → qv_Mem → Option qv_Mem) → Int32 → qv_Mem → Option qv_Mem := fun r7 v5 M6 =>
 (if 17 ≤ v5 then
 k2 M6
 else
 qv_gS t 14 M6 (fun v8 =>
 qv_ldL 340 (qv_rf T t 0) ((17 * p1) + v5) M6 (fun v9 =>
 qv_stL 3264 (qv_rf T t 1) ((17 * v8) + v5) v9 M6 (fun M10 =>
 r7 (v5 + 1) M10))))
noncomputable def f_X10_saves (T : List qv_Ent) (t : Nat) (p1 : Int32) (M : qv_Mem) : Option qv_Mem :=
 qv_jn (fun (M1 : qv_Mem) =>
 qv_gS t 14 M1 (fun v3 =>
 qv_pS t 14 (v3 + 1) M1 (fun M4 =>
 some M4))) (fun k2 =>
 qv_lp2 (b_X10_saves_2 t p1 T k2) qv_N 0 M)
noncomputable def b_X10_loads_2 (t : Nat) (p1 : Int32) (p2 : Int32) (T : List qv_Ent) (k2 : qv_Mem → Option qv_Mem) : (Int32 → qv_Mem → Option qv_Mem) → Int32 → qv_Mem → Option qv_Mem := fun r5 v3 M4 =>
 (if 17 ≤ v3 then
 k2 M4
 else
 qv_ldL 3264 (qv_rf T t 1) ((17 * p1) + v3) M4 (fun v6 =>
 qv_stL 340 (qv_rf T t 0) ((17 * p2) + v3) v6 M4 (fun M7 =>
 r5 (v3 + 1) M7)))
noncomputable def f_X10_loads (T : List qv_Ent) (t : Nat) (p1 : Int32) (p2 : Int32) (M : qv_Mem) : Option qv_Mem :=
 qv_jn (fun (M1 : qv_Mem) =>
 some M1) (fun k2 =>
 qv_lp2 (b_X10_loads_2 t p1 p2 T k2) qv_N 0 M)
noncomputable def f_X10_at (T : List qv_Ent) (t : Nat) (p1 : Int32) (p2 : Int32) (p3 : Int32) (M : qv_Mem) : Option Int64 :=
 qv_ldL 340 (qv_rf T t 0) (((17 * p1) + (4 * p2)) + p3) M (fun v1 =>
 some v1)
noncomputable def b_X10_adds_12 (t : Nat) (p1 : Int32) (p2 : Int32) (p3 : Int32) (p4 : Int32) (p5 : Int32) (p6 : Int32) (T : List qv_Ent) (v3 : Int32) (k7 : qv_Mem → Option qv_Mem) : (Int32 → qv_Mem → Option qv_Mem) → Int32 → qv_Mem → Option qv_Mem := fun r10 v8 M9 =>
 (if 4 ≤ v8 then
 k7 M9
 else
 qv_bo (f_X10_at T t p3 p4 v3 M9) (fun v11 =>
 qv_bo (f_X10_at T t p5 p6 v8 M9) (fun v12 =>
 qv_ldL 340 (qv_rf T t 0) (((17 * p1) + (4 * p2)) + ((v3 + v8) - (v3 + v8) / 4 * 4)) M9 (fun v13 =>
 qv_jn (fun (v14 : Int64) =>
 qv_stL 340 (qv_rf T t 0) (((17 * p1) + (4 * p2)) + ((v3 + v8) - (v3 + v8) / 4 * 4)) (v13 + v14) M9 (fun M16 =>
 r10 (v8 + 1) M16)) (fun k15 =>
 (if 4 ≤ (v3 + v8) then
 k15 (-(v11 * v12))
 else
 k15 (v11 * v12)))))))
noncomputable def b_X10_adds_3 (t : Nat) (p1 : Int32) (p2 : Int32) (p3 : Int32) (p4 : Int32) (p5 : Int32) (p6 : Int32) (T : List qv_Ent) (k2 : qv_Mem → Option qv_Mem) : (Int32 → qv_Mem → Option qv_Mem) → Int32 → qv_Mem → Option qv_Mem := fun r5 v3 M4 =>
 (if 4 ≤ v3 then
 k2 M4
 else
 qv_jn (fun (M6 : qv_Mem) =>
 r5 (v3 + 1) M6) (fun k7 =>
 qv_lp2 (b_X10_adds_12 t p1 p2 p3 p4 p5 p6 T v3 k7) qv_N 0 M4))
noncomputable def f_X10_adds (T : List qv_Ent) (t : Nat) (p1 : Int32) (p2 : Int32) (p3 : Int32) (p4 : Int32) (p5 : Int32) (p6 : Int32) (M : qv_Mem) : Option qv_Mem :=
 qv_jn (fun (M1 : qv_Mem) =>
 some M1) (fun k2 =>
 qv_lp2 (b_X10_adds_3 t p1 p2 p3 p4 p5 p6 T k2) qv_N 0 M)
noncomputable def f_X10_eOf (T : List qv_Ent) (t : Nat) (p1 : Int32) (M : qv_Mem) : Option Int32 :=
 qv_ldL 340 (qv_rf T t 0) ((17 * p1) + 16) M (fun v1 =>
 some v1.toInt32)
noncomputable def b_X10_plainly_40 (t : Nat) (p2 : Int32) (p3 : Int32) (T : List qv_Ent) (v9 : Int32) (k13 : qv_Mem → Option qv_Mem) : (Int32 → qv_Mem → Option qv_Mem) → Int32 → qv_Mem → Option qv_Mem := fun r16 v14 M15 =>
 (if 2 ≤ v14 then
 k13 M15
 else
 qv_bo (f_X10_adds T t 19 ((2 * v9) + v14) p2 (2 * v9) p3 v14 M15) (fun M17 =>
 qv_bo (f_X10_adds T t 19 ((2 * v9) + v14) p2 ((2 * v9) + 1) p3 (2 + v14) M17) (fun M18 =>
 r16 (v14 + 1) M18)))
noncomputable def b_X10_plainly_31 (t : Nat) (p2 : Int32) (p3 : Int32) (T : List qv_Ent) (k4 : qv_Mem → Option qv_Mem) : (Int32 → qv_Mem → Option qv_Mem) → Int32 → qv_Mem → Option qv_Mem := fun r11 v9 M10 =>
 (if 2 ≤ v9 then
 k4 M10
 else
 qv_jn (fun (M12 : qv_Mem) =>
 r11 (v9 + 1) M12) (fun k13 =>
 qv_lp2 (b_X10_plainly_40 t p2 p3 T v9 k13) qv_N 0 M10))
noncomputable def b_X10_plainly_3 (t : Nat) (T : List qv_Ent) (k2 : qv_Mem → Option qv_Mem) : (Int32 → qv_Mem → Option qv_Mem) → Int32 → qv_Mem → Option qv_Mem := fun r21 v19 M20 =>
 (if 17 ≤ v19 then
 k2 M20
 else
 qv_stL 340 (qv_rf T t 0) (323 + v19) 0 M20 (fun M22 =>
 r21 (v19 + 1) M22))
noncomputable def f_X10_plainly (T : List qv_Ent) (t : Nat) (p1 : Int32) (p2 : Int32) (p3 : Int32) (M : qv_Mem) : Option qv_Mem :=
 qv_jn (fun (M1 : qv_Mem) =>
 qv_jn (fun (M3 : qv_Mem) =>
 qv_bo (f_X10_eOf T t p2 M3) (fun v5 =>
 qv_bo (f_X10_eOf T t p3 M3) (fun v6 =>
 qv_stL 340 (qv_rf T t 0) 339 ((v5 + v6).toInt64) M3 (fun M7 =>
 qv_bo (f_X10_copies T t 19 p1 M7) (fun M8 =>
 some M8))))) (fun k4 =>
 qv_lp2 (b_X10_plainly_31 t p2 p3 T k4) qv_N 0 M1)) (fun k2 =>
 qv_lp2 (b_X10_plainly_3 t T k2) qv_N 0 M)
noncomputable def b_X10_isOver_4 (t : Nat) (p1 : Int32) (M : qv_Mem) (T : List qv_Ent) (k2 : Int32 → Option Int32) : (Int32 → Int32 → Option Int32) → Int32 → Int32 → Option Int32 := fun r5 v3 v4 =>
 (if 4 ≤ v4 then
 k2 v3
 else
 qv_bo (f_X10_at T t p1 v4 0 M) (fun v6 =>
 qv_bo (f_X10_at T t p1 v4 2 M) (fun v7 =>
 qv_jn (fun (v8 : Int32) =>
 r5 (v3 &&& v8) (v4 + 1)) (fun k9 =>
 (if (lg_cmp ((v6 + v7) - (v6 + v7) / 2 * 2) 0) = 0 then
 qv_bo (f_X10_at T t p1 v4 1 M) (fun v10 =>
 qv_bo (f_X10_at T t p1 v4 3 M) (fun v11 =>
 (if (lg_cmp ((v10 + v11) - (v10 + v11) / 2 * 2) 0) = 0 then
 k9 1
 else
 k9 0)))
 else
 k9 0)))))
noncomputable def f_X10_isOver (T : List qv_Ent) (t : Nat) (p1 : Int32) (M : qv_Mem) : Option Int32 :=
 qv_jn (fun (v1 : Int32) =>
 qv_gd (qv_01 v1) (some v1)) (fun k2 =>
 qv_lp2 (b_X10_isOver_4 t p1 M T k2) qv_N 1 0)
noncomputable def b_X10_lowers_18 (t : Nat) (p1 : Int32) (T : List qv_Ent) (k8 : qv_Mem → Option qv_Mem) : (Int32 → qv_Mem → Option qv_Mem) → Int32 → qv_Mem → Option qv_Mem := fun r13 v11 M12 =>
 (if 4 ≤ v11 then
 k8 M12
 else
 qv_bo (f_X10_at T t p1 v11 0 M12) (fun v14 =>
 qv_bo (f_X10_at T t p1 v11 1 M12) (fun v15 =>
 qv_bo (f_X10_at T t p1 v11 2 M12) (fun v16 =>
 qv_bo (f_X10_at T t p1 v11 3 M12) (fun v17 =>
 qv_bo (f_X10_number T t p1 v11 0 ((v15 - v17) / 2) M12) (fun M18 =>
 qv_bo (f_X10_number T t p1 v11 1 ((v14 + v16) / 2) M18) (fun M19 =>
 qv_bo (f_X10_number T t p1 v11 2 ((v15 + v17) / 2) M19) (fun M20 =>
 qv_bo (f_X10_number T t p1 v11 3 ((v16 - v14) / 2) M20) (fun M21 =>
 r13 (v11 + 1) M21)))))))))
noncomputable def b_X10_lowers_0 (t : Nat) (p1 : Int32) (T : List qv_Ent) (k2 : qv_Mem → Option qv_Mem) : (qv_Mem → Option qv_Mem) → qv_Mem → Option qv_Mem := fun r4 M3 =>
 qv_bo (f_X10_eOf T t p1 M3) (fun v5 =>
 (if v5 ≤ 0 then
 k2 M3
 else
 qv_bo (f_X10_isOver T t p1 M3) (fun v6 =>
 (if v6 = 0 then
 k2 M3
 else
 qv_jn (fun (M7 : qv_Mem) =>
 qv_ldL 340 (qv_rf T t 0) ((17 * p1) + 16) M7 (fun v9 =>
 qv_stL 340 (qv_rf T t 0) ((17 * p1) + 16) (v9 - 1) M7 (fun M10 =>
 r4 M10))) (fun k8 =>
 qv_lp2 (b_X10_lowers_18 t p1 T k8) qv_N 0 M3)))))
noncomputable def f_X10_lowers (T : List qv_Ent) (t : Nat) (p1 : Int32) (M : qv_Mem) : Option qv_Mem :=
 qv_jn (fun (M1 : qv_Mem) =>
 some M1) (fun k2 =>
 qv_lp1 (b_X10_lowers_0 t p1 T k2) qv_N M)
noncomputable def f_X10_product (T : List qv_Ent) (t : Nat) (p1 : Int32) (p2 : Int32) (p3 : Int32) (M : qv_Mem) : Option qv_Mem :=
 qv_bo (f_X10_plainly T t p1 p2 p3 M) (fun M1 =>
 qv_bo (f_X10_lowers T t p1 M1) (fun M2 =>
 some M2))
noncomputable def b_X10_cliffordOf_15 (t : Nat) (p1 : Int32) (M : qv_Mem) (T : List qv_Ent) (v2 : Int32) (k6 : Int32 → Option Int32) : (Int32 → Int32 → Option Int32) → Int32 → Int32 → Option Int32 := fun r9 v7 v8 =>
 (if 17 ≤ v8 then
 k6 v7
 else
 (if v7 = 0 then
 k6 v7
 else
 qv_ldL 3264 (qv_rf T t 1) ((17 * v2) + v8) M (fun v10 =>
 qv_ldL 340 (qv_rf T t 0) ((17 * p1) + v8) M (fun v11 =>
 qv_jn (fun (v12 : Int32) =>
 r9 v12 (v8 + 1)) (fun k13 =>
 (if (lg_cmp v10 v11) = 0 then
 k13 1
 else
 k13 0))))))
noncomputable def b_X10_cliffordOf_2 (t : Nat) (p1 : Int32) (M : qv_Mem) (T : List qv_Ent) (k1 : Unit → Option Int32) : (Int32 → Option Int32) → Int32 → Option Int32 := fun r3 v2 =>
 qv_gS t 14 M (fun v4 =>
 (if v4 ≤ v2 then
 k1 ()
 else
 qv_jn (fun (v5 : Int32) =>
 (if v5 = 0 then
 r3 (v2 + 1)
 else
 some v2)) (fun k6 =>
 qv_lp2 (b_X10_cliffordOf_15 t p1 M T v2 k6) qv_N 1 0)))
noncomputable def f_X10_cliffordOf (T : List qv_Ent) (t : Nat) (p1 : Int32) (M : qv_Mem) : Option Int32 :=
 qv_jn (fun (_ : Unit) =>
 some (-2)) (fun k1 =>
 qv_lp1 (b_X10_cliffordOf_2 t p1 M T k1) qv_N 0)
noncomputable def f_X10_isClifford (p0 : Int32) : Option Int32 :=
 (if p0 = 0 then
 some 1
 else
 (if p0 = 2 then
 some 1
 else
 (if p0 = 3 then
 some 1
 else
 (if p0 = 4 then
 some 1
 else
 (if p0 = 5 then
 some 1
 else
 some 0)))))
noncomputable def b_X10_turns_2 (t : Nat) (p1 : Int32) (T : List qv_Ent) (k2 : qv_Mem → Option qv_Mem) : (Int32 → qv_Mem → Option qv_Mem) → Int32 → qv_Mem → Option qv_Mem := fun r8 v6 M7 =>
 (if 4 ≤ v6 then
 k2 M7
 else
 qv_jn (fun (v9 : Int32) =>
 qv_bo (f_X10_at T t p1 v9 0 M7) (fun v11 =>
 qv_bo (f_X10_number T t 19 v6 0 v11 M7) (fun M12 =>
 qv_bo (f_X10_at T t p1 v9 3 M12) (fun v13 =>
 qv_bo (f_X10_number T t 19 v6 1 (-v13) M12) (fun M14 =>
 qv_bo (f_X10_at T t p1 v9 2 M14) (fun v15 =>
 qv_bo (f_X10_number T t 19 v6 2 (-v15) M14) (fun M16 =>
 qv_bo (f_X10_at T t p1 v9 1 M16) (fun v17 =>
 qv_bo (f_X10_number T t 19 v6 3 (-v17) M16) (fun M18 =>
 r8 (v6 + 1) M18))))))))) (fun k10 =>
 (if v6 = 1 then
 k10 2
 else
 (if v6 = 2 then
 k10 1
 else
 k10 v6))))
noncomputable def f_X10_turns (T : List qv_Ent) (t : Nat) (p1 : Int32) (p2 : Int32) (M : qv_Mem) : Option qv_Mem :=
 qv_jn (fun (M1 : qv_Mem) =>
 qv_bo (f_X10_eOf T t p1 M1) (fun v3 =>
 qv_stL 340 (qv_rf T t 0) 339 v3.toInt64 M1 (fun M4 =>
 qv_bo (f_X10_copies T t 19 p2 M4) (fun M5 =>
 some M5)))) (fun k2 =>
 qv_lp2 (b_X10_turns_2 t p1 T k2) qv_N 0 M)
noncomputable def b_X10_walks_99 (t : Nat) (T : List qv_Ent) (v6 : Int32) (k11 : qv_Mem → Option qv_Mem) : (Int32 → qv_Mem → Option qv_Mem) → Int32 → qv_Mem → Option qv_Mem := fun r14 v12 M13 =>
 (if 7 ≤ v12 then
 k11 M13
 else
 qv_bo (f_X10_isClifford v12) (fun v15 =>
 qv_jn (fun (M16 : qv_Mem) =>
 r14 (v12 + 1) M16) (fun k17 =>
 (if v15 = 0 then
 k17 M13
 else
 qv_bo (f_X10_loads T t v6 15 M13) (fun M18 =>
 qv_bo (f_X10_product T t 15 15 (4 + v12) M18) (fun M19 =>
 qv_bo (f_X10_cliffordOf T t 15 M19) (fun v20 =>
 qv_stI 1344 (qv_rf T t 12) ((7 * v6) + v12) v20 M19 (fun M21 =>
 qv_bo (f_X10_loads T t v6 15 M21) (fun M22 =>
 qv_bo (f_X10_turns T t (4 + v12) 16 M22) (fun M23 =>
 qv_bo (f_X10_product T t 15 16 15 M23) (fun M24 =>
 qv_bo (f_X10_cliffordOf T t 15 M24) (fun v25 =>
 qv_stI 1344 (qv_rf T t 13) ((7 * v6) + v12) v25 M24 (fun M26 =>
 k17 M26)))))))))))))
noncomputable def b_X10_walks_89 (t : Nat) (T : List qv_Ent) (k5 : qv_Mem → Option qv_Mem) : (Int32 → qv_Mem → Option qv_Mem) → Int32 → qv_Mem → Option qv_Mem := fun r8 v6 M7 =>
 qv_gS t 14 M7 (fun v9 =>
 (if v9 ≤ v6 then
 k5 M7
 else
 qv_jn (fun (M10 : qv_Mem) =>
 r8 (v6 + 1) M10) (fun k11 =>
 qv_lp2 (b_X10_walks_99 t T v6 k11) qv_N 0 M7)))
noncomputable def b_X10_walks_18 (t : Nat) (T : List qv_Ent) (v27 : Int32) (k32 : qv_Mem → Option qv_Mem) : (Int32 → qv_Mem → Option qv_Mem) → Int32 → qv_Mem → Option qv_Mem := fun r35 v33 M34 =>
 (if 3 ≤ v33 then
 k32 M34
 else
 qv_bo (f_X10_loads T t v27 15 M34) (fun M36 =>
 qv_jn (fun (v37 : Int32) =>
 qv_bo (f_X10_product T t 15 15 (4 + v37) M36) (fun M39 =>
 qv_bo (f_X10_cliffordOf T t 15 M39) (fun v40 =>
 qv_jn (fun (M41 : qv_Mem) =>
 r35 (v33 + 1) M41) (fun k42 =>
 (if v40 = (-2) then
 qv_bo (f_X10_saves T t 15 M39) (fun M43 =>
 k42 M43)
 else
 k42 M39))))) (fun k38 =>
 (if v33 = 0 then
 k38 0
 else
 (if v33 = 1 then
 k38 2
 else
 k38 5)))))
noncomputable def b_X10_walks_8 (t : Nat) (T : List qv_Ent) (k3 : qv_Mem → Option qv_Mem) : (Int32 → qv_Mem → Option qv_Mem) → Int32 → qv_Mem → Option qv_Mem := fun r29 v27 M28 =>
 qv_gS t 14 M28 (fun v30 =>
 (if v30 ≤ v27 then
 k3 M28
 else
 qv_jn (fun (M31 : qv_Mem) =>
 r29 (v27 + 1) M31) (fun k32 =>
 qv_lp2 (b_X10_walks_18 t T v27 k32) qv_N 0 M28)))
noncomputable def f_X10_walks (T : List qv_Ent) (t : Nat) (M : qv_Mem) : Option qv_Mem :=
 qv_bo (f_X10_saves T t 14 M) (fun M1 =>
 qv_jn (fun (M2 : qv_Mem) =>
 qv_jn (fun (M4 : qv_Mem) =>
 some M4) (fun k5 =>
 qv_lp2 (b_X10_walks_89 t T k5) qv_N 0 M2)) (fun k3 =>
 qv_lp2 (b_X10_walks_8 t T k3) qv_N 0 M1))
noncomputable def f_X10_isIn (p0 : Int64) (p1 : Int64) (p2 : Int64) : Option Int32 :=
 (if (lg_cmp p0 p1) < 0 then
 some 0
 else
 (if 0 < (lg_cmp p0 p2) then
 some 0
 else
 some 1))
noncomputable def b_X10_areSame_5 (t : Nat) (p1 : Int32) (p2 : Int32) (M : qv_Mem) (T : List qv_Ent) (k2 : Int32 → Option Int32) : (Int32 → Int32 → Option Int32) → Int32 → Int32 → Option Int32 := fun r5 v3 v4 =>
 (if 17 ≤ v4 then
 k2 v3
 else
 qv_ldL 340 (qv_rf T t 0) ((17 * p1) + v4) M (fun v6 =>
 qv_ldL 340 (qv_rf T t 0) ((17 * p2) + v4) M (fun v7 =>
 qv_jn (fun (v8 : Int32) =>
 r5 (v3 &&& v8) (v4 + 1)) (fun k9 =>
 (if (lg_cmp v6 v7) = 0 then
 k9 1
 else
 k9 0)))))
noncomputable def f_X10_areSame (T : List qv_Ent) (t : Nat) (p1 : Int32) (p2 : Int32) (M : qv_Mem) : Option Int32 :=
 qv_jn (fun (v1 : Int32) =>
 qv_gd (qv_01 v1) (some v1)) (fun k2 =>
 qv_lp2 (b_X10_areSame_5 t p1 p2 M T k2) qv_N 1 0)
noncomputable def f_X10_isRegister (p0 : Int32) : Option Int32 :=
 qv_bo (f_X10_isIn p0.toInt64 0 3) (fun v1 =>
 qv_gd (qv_01 v1) (some v1))
noncomputable def f_X10_isGate (p0 : Int32) : Option Int32 :=
 qv_bo (f_X10_isIn p0.toInt64 0 6) (fun v1 =>
 qv_gd (qv_01 v1) (some v1))
noncomputable def f_X10_one (T : List qv_Ent) (t : Nat) (p1 : Int32) (M : qv_Mem) : Option (Int32 × qv_Mem) :=
 qv_bo (f_X10_isRegister p1) (fun v1 =>
 (if v1 = 0 then
 some ((-1), M)
 else
 qv_bo (f_X10_eOf T t p1 M) (fun v2 =>
 qv_bo (f_X10_copies T t 14 p1 M) (fun M3 =>
 some (v2, M3)))))
noncomputable def f_X10_comes (T : List qv_Ent) (t : Nat) (p1 : Int32) (M : qv_Mem) : Option (Int32 × qv_Mem) :=
 qv_bo (f_X10_eOf T t 15 M) (fun v1 =>
 (if v1 ≤ 40 then
 qv_bo (f_X10_copies T t 15 p1 M) (fun M2 =>
 qv_bo (f_X10_eOf T t p1 M2) (fun v3 =>
 some (v3, M2)))
 else
 some ((-5), M)))
noncomputable def f_X10_gate (T : List qv_Ent) (t : Nat) (p1 : Int32) (p2 : Int32) (M : qv_Mem) : Option (Int32 × qv_Mem) :=
 qv_bo (f_X10_isRegister p1) (fun v1 =>
 (if v1 = 0 then
 some ((-1), M)
 else
 qv_bo (f_X10_isGate p2) (fun v2 =>
 (if v2 = 0 then
 some ((-1), M)
 else
 qv_bo (f_X10_product T t 15 p1 (4 + p2) M) (fun M3 =>
 qv_bp (f_X10_comes T t p1 M3) (fun v4 M5 =>
 some (v4, M5)))))))
noncomputable def f_X10_ahead (T : List qv_Ent) (t : Nat) (p1 : Int32) (p2 : Int32) (M : qv_Mem) : Option (Int32 × qv_Mem) :=
 qv_bo (f_X10_isRegister p1) (fun v1 =>
 (if v1 = 0 then
 some ((-1), M)
 else
 qv_bo (f_X10_isGate p2) (fun v2 =>
 (if v2 = 0 then
 some ((-1), M)
 else
 qv_bo (f_X10_product T t 15 (4 + p2) p1 M) (fun M3 =>
 qv_bp (f_X10_comes T t p1 M3) (fun v4 M5 =>
 some (v4, M5)))))))
noncomputable def f_X10_times (T : List qv_Ent) (t : Nat) (p1 : Int32) (p2 : Int32) (p3 : Int32) (M : qv_Mem) : Option (Int32 × qv_Mem) :=
 qv_bo (f_X10_isRegister p1) (fun v1 =>
 (if v1 = 0 then
 some ((-1), M)
 else
 qv_bo (f_X10_isRegister p2) (fun v2 =>
 (if v2 = 0 then
 some ((-1), M)
 else
 qv_bo (f_X10_isRegister p3) (fun v3 =>
 (if v3 = 0 then
 some ((-1), M)
 else
 qv_bo (f_X10_product T t 15 p2 p3 M) (fun M4 =>
 qv_bp (f_X10_comes T t p1 M4) (fun v5 M6 =>
 some (v5, M6)))))))))
noncomputable def f_X10_turn (T : List qv_Ent) (t : Nat) (p1 : Int32) (M : qv_Mem) : Option (Int32 × qv_Mem) :=
 qv_bo (f_X10_isRegister p1) (fun v1 =>
 (if v1 = 0 then
 some ((-1), M)
 else
 qv_bo (f_X10_turns T t p1 p1 M) (fun M2 =>
 qv_bo (f_X10_eOf T t p1 M2) (fun v3 =>
 some (v3, M2)))))
noncomputable def f_X10_part (T : List qv_Ent) (t : Nat) (p1 : Int32) (p2 : Int32) (p3 : Int32) (p4 : Int32) (M : qv_Mem) : Option Int64 :=
 qv_bo (f_X10_isRegister p1) (fun v1 =>
 qv_jn (fun (_ : Unit) =>
 some (-9223372036854775808)) (fun k2 =>
 (if v1 = 0 then
 k2 ()
 else
 qv_bo (f_X10_isIn p2.toInt64 0 1) (fun v3 =>
 (if v3 = 0 then
 k2 ()
 else
 qv_bo (f_X10_isIn p3.toInt64 0 1) (fun v4 =>
 (if v4 = 0 then
 k2 ()
 else
 qv_bo (f_X10_isIn p4.toInt64 0 3) (fun v5 =>
 (if v5 = 0 then
 k2 ()
 else
 qv_bo (f_X10_at T t p1 ((2 * p2) + p3) p4 M) (fun v6 =>
 some v6))))))))))
noncomputable def f_X10_e (T : List qv_Ent) (t : Nat) (p1 : Int32) (M : qv_Mem) : Option Int32 :=
 qv_bo (f_X10_isRegister p1) (fun v1 =>
 (if v1 = 0 then
 some (-1)
 else
 qv_bo (f_X10_eOf T t p1 M) (fun v2 =>
 some v2)))
noncomputable def b_X10_phase_25 (t : Nat) (p1 : Int32) (T : List qv_Ent) (k5 : qv_Mem → Option (Int32 × qv_Mem)) : (Int32 → qv_Mem → Option (Int32 × qv_Mem)) → Int32 → qv_Mem → Option (Int32 × qv_Mem) := fun r8 v6 M7 =>
 (if 8 ≤ v6 then
 k5 M7
 else
 qv_bo (f_X10_areSame T t 15 p1 M7) (fun v9 =>
 (if v9 = 0 then
 qv_bo (f_X10_product T t 15 9 15 M7) (fun M10 =>
 r8 (v6 + 1) M10)
 else
 some (v6, M7))))
noncomputable def f_X10_phase (T : List qv_Ent) (t : Nat) (p1 : Int32) (p2 : Int32) (M : qv_Mem) : Option (Int32 × qv_Mem) :=
 qv_bo (f_X10_isRegister p1) (fun v1 =>
 (if v1 = 0 then
 some ((-1), M)
 else
 qv_bo (f_X10_isRegister p2) (fun v2 =>
 (if v2 = 0 then
 some ((-1), M)
 else
 qv_bo (f_X10_copies T t p2 15 M) (fun M3 =>
 qv_jn (fun (M4 : qv_Mem) =>
 some ((-2), M4)) (fun k5 =>
 qv_lp2 (b_X10_phase_25 t p1 T k5) qv_N 0 M3))))))
noncomputable def b_X10_channels_167 (t : Nat) (T : List qv_Ent) (v12 : Int32) (k15 : qv_Mem → Option (Int32 × qv_Mem)) : (Int32 → qv_Mem → Option (Int32 × qv_Mem)) → Int32 → qv_Mem → Option (Int32 × qv_Mem) := fun r20 v18 M19 =>
 (if 9 ≤ v18 then
 k15 M19
 else
 (if v12 = 0 then
 k15 M19
 else
 qv_ldL 9 (qv_rf T t 10) v18 M19 (fun v21 =>
 qv_ldL 9 (qv_rf T t 11) v18 M19 (fun v22 =>
 qv_stL 9 (qv_rf T t 10) v18 v22 M19 (fun M23 =>
 qv_stL 9 (qv_rf T t 11) v18 (v21 / 2) M23 (fun M24 =>
 r20 (v18 + 1) M24))))))
noncomputable def b_X10_channels_127 (t : Nat) (T : List qv_Ent) (M10 : qv_Mem) (k13 : Int32 → Option (Int32 × qv_Mem)) : (Int32 → Int32 → Option (Int32 × qv_Mem)) → Int32 → Int32 → Option (Int32 × qv_Mem) := fun r27 v25 v26 =>
 (if 9 ≤ v26 then
 k13 v25
 else
 qv_ldL 9 (qv_rf T t 10) v26 M10 (fun v28 =>
 qv_jn (fun (v29 : Int32) =>
 r27 (v25 &&& v29) (v26 + 1)) (fun k30 =>
 (if (lg_cmp (v28 - v28 / 2 * 2) 0) = 0 then
 k30 1
 else
 k30 0))))
noncomputable def b_X10_channels_116 (t : Nat) (T : List qv_Ent) (k7 : Int32 → qv_Mem → Option (Int32 × qv_Mem)) : (Int32 → Int32 → qv_Mem → Option (Int32 × qv_Mem)) → Int32 → Int32 → qv_Mem → Option (Int32 × qv_Mem) := fun r11 v8 v9 M10 =>
 (if v9 = 0 then
 k7 v8 M10
 else
 (if v8 ≤ 0 then
 k7 v8 M10
 else
 qv_jn (fun (v12 : Int32) =>
 qv_jn (fun (M14 : qv_Mem) =>
 qv_jn (fun (v16 : Int32) =>
 r11 (v8 - v16) v12 M14) (fun k17 =>
 (if v12 = 0 then
 k17 0
 else
 k17 1))) (fun k15 =>
 qv_lp2 (b_X10_channels_167 t T v12 k15) qv_N 0 M10)) (fun k13 =>
 qv_lp2 (b_X10_channels_127 t T M10 k13) qv_N v9 0)))
noncomputable def b_X10_channels_9 (t : Nat) (p1 : Int32) (T : List qv_Ent) (k3 : qv_Mem → Option (Int32 × qv_Mem)) : (Int32 → qv_Mem → Option (Int32 × qv_Mem)) → Int32 → qv_Mem → Option (Int32 × qv_Mem) := fun r33 v31 M32 =>
 (if 9 ≤ v31 then
 k3 M32
 else
 qv_bo (f_X10_plainly T t 17 (11 + (v31 / 3)) p1 M32) (fun M34 =>
 qv_bo (f_X10_plainly T t 17 17 (11 + (v31 - v31 / 3 * 3)) M34) (fun M35 =>
 qv_bo (f_X10_plainly T t 17 17 16 M35) (fun M36 =>
 qv_bo (f_X10_at T t 17 0 0 M36) (fun v37 =>
 qv_bo (f_X10_at T t 17 3 0 M36) (fun v38 =>
 qv_stL 9 (qv_rf T t 10) v31 (v37 + v38) M36 (fun M39 =>
 qv_bo (f_X10_at T t 17 0 1 M39) (fun v40 =>
 qv_bo (f_X10_at T t 17 3 1 M39) (fun v41 =>
 qv_stL 9 (qv_rf T t 11) v31 (v40 + v41) M39 (fun M42 =>
 r33 (v31 + 1) M42))))))))))
noncomputable def f_X10_channels (T : List qv_Ent) (t : Nat) (p1 : Int32) (M : qv_Mem) : Option (Int32 × qv_Mem) :=
 qv_bo (f_X10_turns T t p1 16 M) (fun M1 =>
 qv_jn (fun (M2 : qv_Mem) =>
 qv_bo (f_X10_eOf T t p1 M2) (fun v4 =>
 qv_jn (fun (v5 : Int32) (M6 : qv_Mem) =>
 some (v5, M6)) (fun k7 =>
 qv_lp3 (b_X10_channels_116 t T k7) qv_N ((2 * v4) + 2) 1 M2))) (fun k3 =>
 qv_lp2 (b_X10_channels_9 t p1 T k3) qv_N 0 M1))
noncomputable def f_X10_channel (T : List qv_Ent) (t : Nat) (p1 : Int32) (p2 : Int32) (p3 : Int32) (p4 : Int32) (M : qv_Mem) : Option (Int64 × qv_Mem) :=
 qv_bo (f_X10_isRegister p1) (fun v1 =>
 qv_jn (fun (_ : Unit) =>
 some ((-9223372036854775808), M)) (fun k2 =>
 (if v1 = 0 then
 k2 ()
 else
 qv_bo (f_X10_isIn p2.toInt64 0 2) (fun v3 =>
 (if v3 = 0 then
 k2 ()
 else
 qv_bo (f_X10_isIn p3.toInt64 0 2) (fun v4 =>
 (if v4 = 0 then
 k2 ()
 else
 qv_bo (f_X10_isIn p4.toInt64 0 1) (fun v5 =>
 (if v5 = 0 then
 k2 ()
 else
 qv_bp (f_X10_channels T t p1 M) (fun v6 M7 =>
 (if p4 = 0 then
 qv_ldL 9 (qv_rf T t 10) ((3 * p2) + p3) M7 (fun v9 =>
 some (v9, M7))
 else
 qv_ldL 9 (qv_rf T t 11) ((3 * p2) + p3) M7 (fun v8 =>
 some (v8, M7)))))))))))))
noncomputable def f_X10_count (T : List qv_Ent) (t : Nat) (p1 : Int32) (M : qv_Mem) : Option (Int32 × qv_Mem) :=
 qv_bo (f_X10_isRegister p1) (fun v1 =>
 (if v1 = 0 then
 some ((-1), M)
 else
 qv_bp (f_X10_channels T t p1 M) (fun v2 M3 =>
 some (v2, M3))))
noncomputable def f_X10_isNumber (T : List qv_Ent) (t : Nat) (p1 : Int32) (M : qv_Mem) : Option Int32 :=
 qv_gS t 14 M (fun v1 =>
 qv_bo (f_X10_isIn p1.toInt64 0 ((v1 - 1).toInt64)) (fun v2 =>
 qv_gd (qv_01 v2) (some v2)))
noncomputable def f_X10_clifford (T : List qv_Ent) (t : Nat) (p1 : Int32) (M : qv_Mem) : Option Int32 :=
 qv_bo (f_X10_isRegister p1) (fun v1 =>
 (if v1 = 0 then
 some (-1)
 else
 qv_bo (f_X10_cliffordOf T t p1 M) (fun v2 =>
 some v2)))
noncomputable def f_X10_take (T : List qv_Ent) (t : Nat) (p1 : Int32) (p2 : Int32) (M : qv_Mem) : Option (Int32 × qv_Mem) :=
 qv_bo (f_X10_isRegister p1) (fun v1 =>
 (if v1 = 0 then
 some ((-1), M)
 else
 qv_bo (f_X10_isNumber T t p2 M) (fun v2 =>
 (if v2 = 0 then
 some ((-1), M)
 else
 qv_bo (f_X10_loads T t p2 p1 M) (fun M3 =>
 qv_bo (f_X10_eOf T t p1 M3) (fun v4 =>
 some (v4, M3)))))))
noncomputable def f_X10_leads (T : List qv_Ent) (t : Nat) (p1 : Int32) (p2 : Int32) (M : qv_Mem) : Option Int32 :=
 qv_bo (f_X10_isNumber T t p1 M) (fun v1 =>
 (if v1 = 0 then
 some (-1)
 else
 qv_bo (f_X10_isClifford p2) (fun v2 =>
 (if v2 = 0 then
 some (-1)
 else
 qv_ldI 1344 (qv_rf T t 12) ((7 * p1) + p2) M (fun v3 =>
 some v3)))))
noncomputable def f_X10_price (T : List qv_Ent) (t : Nat) (p1 : Int32) (p2 : Int32) (M : qv_Mem) : Option (Int32 × qv_Mem) :=
 qv_bo (f_X10_isGate p1) (fun v1 =>
 (if v1 = 0 then
 some ((-1), M)
 else
 qv_bo (f_X10_isIn p2.toInt64 0 9) (fun v2 =>
 (if v2 = 0 then
 some ((-1), M)
 else
 qv_ldI 7 (qv_rf T t 3) p1 M (fun v3 =>
 qv_stI 7 (qv_rf T t 3) p1 p2 M (fun M4 =>
 some (v3, M4)))))))
noncomputable def b_X10_costs_59 (t : Nat) (T : List qv_Ent) (v12 : Int32) (k18 : Int32 → qv_Mem → Option qv_Mem) : (Int32 → Int32 → qv_Mem → Option qv_Mem) → Int32 → Int32 → qv_Mem → Option qv_Mem := fun r22 v19 v20 M21 =>
 (if 7 ≤ v20 then
 k18 v19 M21
 else
 qv_ldI 192 (qv_rf T t 15) v12 M21 (fun v23 =>
 (if 1000000 ≤ v23 then
 k18 v19 M21
 else
 qv_bo (f_X10_isClifford v20) (fun v24 =>
 qv_jn (fun (v25 : Int32) (M26 : qv_Mem) =>
 r22 v25 (v20 + 1) M26) (fun k27 =>
 (if v24 = 0 then
 k27 v19 M21
 else
 qv_ldI 1344 (qv_rf T t 12) ((7 * v12) + v20) M21 (fun v28 =>
 qv_ldI 192 (qv_rf T t 15) v12 M21 (fun v29 =>
 qv_ldI 7 (qv_rf T t 3) v20 M21 (fun v30 =>
 qv_ldI 192 (qv_rf T t 15) v28 M21 (fun v31 =>
 qv_jn (fun (_ : Unit) =>
 qv_stI 192 (qv_rf T t 15) v28 (v29 + v30) M21 (fun M33 =>
 qv_ldI 192 (qv_rf T t 16) v12 M33 (fun v34 =>
 qv_stI 192 (qv_rf T t 16) v28 (v34 + 1) M33 (fun M35 =>
 k27 1 M35)))) (fun k32 =>
 (if (v29 + v30) < v31 then
 k32 ()
 else
 qv_ldI 192 (qv_rf T t 15) v28 M21 (fun v36 =>
 (if (v29 + v30) = v36 then
 qv_ldI 192 (qv_rf T t 16) v12 M21 (fun v37 =>
 qv_ldI 192 (qv_rf T t 16) v28 M21 (fun v38 =>
 (if v38 ≤ (v37 + 1) then
 k27 v19 M21
 else
 k32 ())))
 else
 k27 v19 M21))))))))))))))
noncomputable def b_X10_costs_49 (t : Nat) (T : List qv_Ent) (k10 : Int32 → qv_Mem → Option qv_Mem) : (Int32 → Int32 → qv_Mem → Option qv_Mem) → Int32 → Int32 → qv_Mem → Option qv_Mem := fun r14 v11 v12 M13 =>
 qv_gS t 14 M13 (fun v15 =>
 (if v15 ≤ v12 then
 k10 v11 M13
 else
 qv_jn (fun (v16 : Int32) (M17 : qv_Mem) =>
 r14 v16 (v12 + 1) M17) (fun k18 =>
 qv_lp3 (b_X10_costs_59 t T v12 k18) qv_N v11 0 M13)))
noncomputable def b_X10_costs_41 (t : Nat) (T : List qv_Ent) (k4 : qv_Mem → Option qv_Mem) : (Int32 → qv_Mem → Option qv_Mem) → Int32 → qv_Mem → Option qv_Mem := fun r7 v5 M6 =>
 (if v5 = 0 then
 k4 M6
 else
 qv_jn (fun (v8 : Int32) (M9 : qv_Mem) =>
 r7 v8 M9) (fun k10 =>
 qv_lp3 (b_X10_costs_49 t T k10) qv_N 0 0 M6))
noncomputable def b_X10_costs_2 (t : Nat) (T : List qv_Ent) (k2 : qv_Mem → Option qv_Mem) : (Int32 → qv_Mem → Option qv_Mem) → Int32 → qv_Mem → Option qv_Mem := fun r41 v39 M40 =>
 qv_gS t 14 M40 (fun v42 =>
 (if v42 ≤ v39 then
 k2 M40
 else
 qv_jn (fun (v43 : Int32) =>
 qv_stI 192 (qv_rf T t 15) v39 v43 M40 (fun M45 =>
 qv_stI 192 (qv_rf T t 16) v39 0 M45 (fun M46 =>
 r41 (v39 + 1) M46))) (fun k44 =>
 (if v39 = 0 then
 k44 0
 else
 k44 1000000))))
noncomputable def f_X10_costs (T : List qv_Ent) (t : Nat) (M : qv_Mem) : Option qv_Mem :=
 qv_jn (fun (M1 : qv_Mem) =>
 qv_jn (fun (M3 : qv_Mem) =>
 some M3) (fun k4 =>
 qv_lp2 (b_X10_costs_41 t T k4) qv_N 1 M1)) (fun k2 =>
 qv_lp2 (b_X10_costs_2 t T k2) qv_N 0 M)
noncomputable def b_X10_cheapestBehind_17 (t : Nat) (T : List qv_Ent) (v4 : Int32) (M5 : qv_Mem) (k9 : Int32 → Option qv_Mem) : (Int32 → Option qv_Mem) → Int32 → Option qv_Mem := fun r16 v15 =>
 qv_bo (f_X10_isClifford v15) (fun v17 =>
 qv_jn (fun (_ : Unit) =>
 r16 (v15 + 1)) (fun k18 =>
 (if v17 = 0 then
 k18 ()
 else
 qv_ldI 1344 (qv_rf T t 13) ((7 * v4) + v15) M5 (fun v19 =>
 qv_ldI 192 (qv_rf T t 15) v19 M5 (fun v20 =>
 qv_ldI 7 (qv_rf T t 3) v15 M5 (fun v21 =>
 qv_ldI 192 (qv_rf T t 15) v4 M5 (fun v22 =>
 (if (v20 + v21) = v22 then
 qv_ldI 1344 (qv_rf T t 13) ((7 * v4) + v15) M5 (fun v23 =>
 qv_ldI 192 (qv_rf T t 16) v23 M5 (fun v24 =>
 qv_ldI 192 (qv_rf T t 16) v4 M5 (fun v25 =>
 (if (v24 + 1) = v25 then
 k9 v15
 else
 k18 ()))))
 else
 k18 ()))))))))
noncomputable def b_X10_cheapestBehind_6 (t : Nat) (T : List qv_Ent) (k3 : qv_Mem → Option qv_Mem) : (Int32 → qv_Mem → Option qv_Mem) → Int32 → qv_Mem → Option qv_Mem := fun r6 v4 M5 =>
 qv_ldI 192 (qv_rf T t 16) v4 M5 (fun v7 =>
 (if v7 ≤ 0 then
 k3 M5
 else
 qv_jn (fun (v8 : Int32) =>
 qv_gS t 18 M5 (fun v10 =>
 qv_stI 600 (qv_rf T t 17) v10 v8 M5 (fun M11 =>
 qv_gS t 18 M11 (fun v12 =>
 qv_pS t 18 (v12 + 1) M11 (fun M13 =>
 qv_ldI 1344 (qv_rf T t 13) ((7 * v4) + v8) M13 (fun v14 =>
 r6 v14 M13)))))) (fun k9 =>
 qv_lp1 (b_X10_cheapestBehind_17 t T v4 M5 k9) qv_N 0)))
noncomputable def f_X10_cheapestBehind (T : List qv_Ent) (t : Nat) (p1 : Int32) (M : qv_Mem) : Option qv_Mem :=
 qv_bo (f_X10_costs T t M) (fun M1 =>
 qv_jn (fun (M2 : qv_Mem) =>
 some M2) (fun k3 =>
 qv_lp2 (b_X10_cheapestBehind_6 t T k3) qv_N p1 M1))
noncomputable def f_X10_cheapest (T : List qv_Ent) (t : Nat) (p1 : Int32) (p2 : Int32) (M : qv_Mem) : Option (Int32 × qv_Mem) :=
 qv_bo (f_X10_isNumber T t p1 M) (fun v1 =>
 (if v1 = 0 then
 some ((-1), M)
 else
 (if (-2) ≤ p2 then
 qv_pS t 18 0 M (fun M2 =>
 qv_bo (f_X10_cheapestBehind T t p1 M2) (fun M3 =>
 (if p2 = (-2) then
 qv_ldI 192 (qv_rf T t 15) p1 M3 (fun v7 =>
 some (v7, M3))
 else
 (if p2 = (-1) then
 qv_gS t 18 M3 (fun v6 =>
 some (v6, M3))
 else
 qv_gS t 18 M3 (fun v4 =>
 (if v4 ≤ p2 then
 some ((-2), M3)
 else
 qv_ldI 600 (qv_rf T t 17) p2 M3 (fun v5 =>
 some (v5, M3))))))))
 else
 some ((-1), M))))
noncomputable def f_X10_isWord (p0 : Int32) : Option Int32 :=
 qv_bo (f_X10_isIn p0.toInt64 0 2) (fun v1 =>
 qv_gd (qv_01 v1) (some v1))
noncomputable def b_X10_isOther_21 (t : Nat) (p1 : Int32) (M : qv_Mem) (T : List qv_Ent) (k6 : Int32 → Option Int32) : (Int32 → Int32 → Option Int32) → Int32 → Int32 → Option Int32 := fun r9 v7 v8 =>
 qv_gS t 18 M (fun v10 =>
 (if v10 ≤ v8 then
 k6 v7
 else
 (if v7 = 0 then
 qv_ldI 180 (qv_rf T t 5) ((60 * p1) + v8) M (fun v11 =>
 qv_ldI 600 (qv_rf T t 17) v8 M (fun v12 =>
 qv_jn (fun (v13 : Int32) =>
 r9 v13 (v8 + 1)) (fun k14 =>
 (if v11 = v12 then
 k14 0
 else
 k14 1))))
 else
 k6 v7)))
noncomputable def f_X10_isOther (T : List qv_Ent) (t : Nat) (p1 : Int32) (M : qv_Mem) : Option Int32 :=
 qv_ldI 3 (qv_rf T t 6) p1 M (fun v1 =>
 qv_gS t 18 M (fun v2 =>
 qv_jn (fun (v3 : Int32) =>
 qv_jn (fun (v5 : Int32) =>
 qv_gd (qv_01 v5) (some v5)) (fun k6 =>
 qv_lp2 (b_X10_isOther_21 t p1 M T k6) qv_N v3 0)) (fun k4 =>
 (if v1 = v2 then
 k4 0
 else
 k4 1))))
noncomputable def b_X10_becomes_198 (t : Nat) (p1 : Int32) (T : List qv_Ent) (k17 : qv_Mem → Option (Int32 × qv_Mem)) : (Int32 → qv_Mem → Option (Int32 × qv_Mem)) → Int32 → qv_Mem → Option (Int32 × qv_Mem) := fun r21 v19 M20 =>
 qv_gS t 18 M20 (fun v22 =>
 (if v22 ≤ v19 then
 k17 M20
 else
 qv_ldI 600 (qv_rf T t 17) v19 M20 (fun v23 =>
 qv_stI 180 (qv_rf T t 5) ((60 * p1) + v19) v23 M20 (fun M24 =>
 r21 (v19 + 1) M24))))
noncomputable def b_X10_becomes_139 (t : Nat) (p1 : Int32) (T : List qv_Ent) (k11 : qv_Mem → Option (Int32 × qv_Mem)) : (Int32 → qv_Mem → Option (Int32 × qv_Mem)) → Int32 → qv_Mem → Option (Int32 × qv_Mem) := fun r27 v25 M26 =>
 (if 60 ≤ v25 then
 k11 M26
 else
 qv_gS t 22 M26 (fun v28 =>
 qv_ldI 180 (qv_rf T t 5) ((60 * p1) + v25) M26 (fun v29 =>
 qv_stI 480 (qv_rf T t 19) ((60 * v28) + v25) v29 M26 (fun M30 =>
 r27 (v25 + 1) M30))))
noncomputable def b_X10_becomes_60 (t : Nat) (T : List qv_Ent) (v35 : Int32) (k43 : qv_Mem → Option (Int32 × qv_Mem)) : (Int32 → qv_Mem → Option (Int32 × qv_Mem)) → Int32 → qv_Mem → Option (Int32 × qv_Mem) := fun r46 v44 M45 =>
 (if 60 ≤ v44 then
 k43 M45
 else
 qv_ldI 480 (qv_rf T t 19) ((60 * v35) + v44) M45 (fun v47 =>
 qv_stI 480 (qv_rf T t 19) ((60 * (v35 - 1)) + v44) v47 M45 (fun M48 =>
 r46 (v44 + 1) M48)))
noncomputable def b_X10_becomes_24 (t : Nat) (T : List qv_Ent) (k32 : qv_Mem → Option (Int32 × qv_Mem)) : (Int32 → qv_Mem → Option (Int32 × qv_Mem)) → Int32 → qv_Mem → Option (Int32 × qv_Mem) := fun r37 v35 M36 =>
 (if 8 ≤ v35 then
 k32 M36
 else
 qv_ldI 8 (qv_rf T t 21) v35 M36 (fun v38 =>
 qv_stI 8 (qv_rf T t 21) (v35 - 1) v38 M36 (fun M39 =>
 qv_ldI 8 (qv_rf T t 20) v35 M39 (fun v40 =>
 qv_stI 8 (qv_rf T t 20) (v35 - 1) v40 M39 (fun M41 =>
 qv_jn (fun (M42 : qv_Mem) =>
 r37 (v35 + 1) M42) (fun k43 =>
 qv_lp2 (b_X10_becomes_60 t T v35 k43) qv_N 0 M41))))))
noncomputable def f_X10_becomes (T : List qv_Ent) (t : Nat) (p1 : Int32) (M : qv_Mem) : Option (Int32 × qv_Mem) :=
 qv_bo (f_X10_isOther T t p1 M) (fun v1 =>
 (if v1 = 0 then
 qv_gS t 18 M (fun v49 =>
 some (v49, M))
 else
 qv_gS t 22 M (fun v2 =>
 qv_jn (fun (M3 : qv_Mem) =>
 qv_gS t 22 M3 (fun v5 =>
 qv_stI 8 (qv_rf T t 21) v5 p1 M3 (fun M6 =>
 qv_gS t 22 M6 (fun v7 =>
 qv_ldI 3 (qv_rf T t 6) p1 M6 (fun v8 =>
 qv_stI 8 (qv_rf T t 20) v7 v8 M6 (fun M9 =>
 qv_jn (fun (M10 : qv_Mem) =>
 qv_gS t 22 M10 (fun v12 =>
 qv_pS t 22 (v12 + 1) M10 (fun M13 =>
 qv_gS t 18 M13 (fun v14 =>
 qv_stI 3 (qv_rf T t 6) p1 v14 M13 (fun M15 =>
 qv_jn (fun (M16 : qv_Mem) =>
 qv_gS t 18 M16 (fun v18 =>
 some (v18, M16))) (fun k17 =>
 qv_lp2 (b_X10_becomes_198 t p1 T k17) qv_N 0 M15)))))) (fun k11 =>
 qv_lp2 (b_X10_becomes_139 t p1 T k11) qv_N 0 M9))))))) (fun k4 =>
 (if v2 = 8 then
 qv_jn (fun (M31 : qv_Mem) =>
 qv_gS t 22 M31 (fun v33 =>
 qv_pS t 22 (v33 - 1) M31 (fun M34 =>
 k4 M34))) (fun k32 =>
 qv_lp2 (b_X10_becomes_24 t T k32) qv_N 1 M)
 else
 k4 M)))))
noncomputable def b_X10_takes_12 (t : Nat) (p1 : Int32) (T : List qv_Ent) (k4 : qv_Mem → Option qv_Mem) : (Int32 → qv_Mem → Option qv_Mem) → Int32 → qv_Mem → Option qv_Mem := fun r7 v5 M6 =>
 qv_gS t 18 M6 (fun v8 =>
 (if v8 ≤ v5 then
 k4 M6
 else
 qv_ldI 180 (qv_rf T t 5) ((60 * p1) + v5) M6 (fun v9 =>
 qv_stI 600 (qv_rf T t 17) v5 v9 M6 (fun M10 =>
 r7 (v5 + 1) M10))))
noncomputable def f_X10_takes (T : List qv_Ent) (t : Nat) (p1 : Int32) (M : qv_Mem) : Option qv_Mem :=
 qv_ldI 3 (qv_rf T t 6) p1 M (fun v1 =>
 qv_pS t 18 v1 M (fun M2 =>
 qv_jn (fun (M3 : qv_Mem) =>
 some M3) (fun k4 =>
 qv_lp2 (b_X10_takes_12 t p1 T k4) qv_N 0 M2)))
noncomputable def f_X10_push (T : List qv_Ent) (t : Nat) (p1 : Int32) (p2 : Int32) (M : qv_Mem) : Option (Int32 × qv_Mem) :=
 qv_bo (f_X10_isWord p1) (fun v1 =>
 (if v1 = 0 then
 some ((-1), M)
 else
 qv_bo (f_X10_isGate p2) (fun v2 =>
 (if v2 = 0 then
 some ((-1), M)
 else
 qv_ldI 3 (qv_rf T t 6) p1 M (fun v3 =>
 (if v3 = 60 then
 some ((-3), M)
 else
 qv_bo (f_X10_takes T t p1 M) (fun M4 =>
 qv_gS t 18 M4 (fun v5 =>
 qv_stI 600 (qv_rf T t 17) v5 p2 M4 (fun M6 =>
 qv_gS t 18 M6 (fun v7 =>
 qv_pS t 18 (v7 + 1) M6 (fun M8 =>
 qv_bp (f_X10_becomes T t p1 M8) (fun v9 M10 =>
 some (v9, M10)))))))))))))
noncomputable def f_X10_pull (T : List qv_Ent) (t : Nat) (p1 : Int32) (M : qv_Mem) : Option (Int32 × qv_Mem) :=
 qv_bo (f_X10_isWord p1) (fun v1 =>
 (if v1 = 0 then
 some ((-1), M)
 else
 qv_ldI 3 (qv_rf T t 6) p1 M (fun v2 =>
 (if v2 = 0 then
 some ((-2), M)
 else
 qv_bo (f_X10_takes T t p1 M) (fun M3 =>
 qv_gS t 18 M3 (fun v4 =>
 qv_pS t 18 (v4 - 1) M3 (fun M5 =>
 qv_gS t 18 M5 (fun v6 =>
 qv_ldI 600 (qv_rf T t 17) v6 M5 (fun v7 =>
 qv_bp (f_X10_becomes T t p1 M5) (fun v8 M9 =>
 some (v7, M9)))))))))))
noncomputable def b_X10_word_20 (t : Nat) (p1 : Int32) (M : qv_Mem) (T : List qv_Ent) (k3 : Int32 → Option Int32) : (Int32 → Int32 → Option Int32) → Int32 → Int32 → Option Int32 := fun r9 v7 v8 =>
 qv_ldI 3 (qv_rf T t 6) p1 M (fun v10 =>
 (if v10 ≤ v8 then
 k3 v7
 else
 qv_ldI 180 (qv_rf T t 5) ((60 * p1) + v8) M (fun v11 =>
 qv_ldI 7 (qv_rf T t 3) v11 M (fun v12 =>
 r9 (v7 + v12) (v8 + 1)))))
noncomputable def f_X10_word (T : List qv_Ent) (t : Nat) (p1 : Int32) (p2 : Int32) (M : qv_Mem) : Option Int32 :=
 qv_bo (f_X10_isWord p1) (fun v1 =>
 (if v1 = 0 then
 some (-1)
 else
 (if (-2) ≤ p2 then
 qv_jn (fun (v2 : Int32) =>
 (if p2 = (-2) then
 some v2
 else
 (if p2 = (-1) then
 qv_ldI 3 (qv_rf T t 6) p1 M (fun v6 =>
 some v6)
 else
 qv_ldI 3 (qv_rf T t 6) p1 M (fun v4 =>
 (if v4 ≤ p2 then
 some (-2)
 else
 qv_ldI 180 (qv_rf T t 5) ((60 * p1) + p2) M (fun v5 =>
 some v5)))))) (fun k3 =>
 qv_lp2 (b_X10_word_20 t p1 M T k3) qv_N 0 0)
 else
 some (-1))))
noncomputable def b_X10_valueOf_10 (t : Nat) (p1 : Int32) (p2 : Int32) (p3 : Int32) (p4 : Int32) (p5 : Int32) (T : List qv_Ent) (k3 : qv_Mem → Option qv_Mem) : (Int32 → qv_Mem → Option qv_Mem) → Int32 → qv_Mem → Option qv_Mem := fun r6 v4 M5 =>
 (if p3 ≤ v4 then
 k3 M5
 else
 qv_ldI 3 (qv_rf T t 6) p2 M5 (fun v7 =>
 (if v7 ≤ v4 then
 k3 M5
 else
 qv_jn (fun (v8 : Int32) =>
 qv_bo (f_X10_product T t p1 p1 (4 + v8) M5) (fun M10 =>
 r6 (v4 + 1) M10)) (fun k9 =>
 (if v4 = p4 then
 k9 p5
 else
 qv_ldI 180 (qv_rf T t 5) ((60 * p2) + v4) M5 (fun v11 =>
 k9 v11))))))
noncomputable def f_X10_valueOf (T : List qv_Ent) (t : Nat) (p1 : Int32) (p2 : Int32) (p3 : Int32) (p4 : Int32) (p5 : Int32) (M : qv_Mem) : Option qv_Mem :=
 qv_bo (f_X10_copies T t 14 p1 M) (fun M1 =>
 qv_jn (fun (M2 : qv_Mem) =>
 some M2) (fun k3 =>
 qv_lp2 (b_X10_valueOf_10 t p1 p2 p3 p4 p5 T k3) qv_N 0 M1))
noncomputable def f_X10_value (T : List qv_Ent) (t : Nat) (p1 : Int32) (p2 : Int32) (M : qv_Mem) : Option (Int32 × qv_Mem) :=
 qv_bo (f_X10_isRegister p1) (fun v1 =>
 (if v1 = 0 then
 some ((-1), M)
 else
 qv_bo (f_X10_isWord p2) (fun v2 =>
 (if v2 = 0 then
 some ((-1), M)
 else
 qv_bo (f_X10_valueOf T t 15 p2 60 (-2) 0 M) (fun M3 =>
 qv_bp (f_X10_comes T t p1 M3) (fun v4 M5 =>
 some (v4, M5)))))))
noncomputable def f_X10_isPair (T : List qv_Ent) (t : Nat) (p1 : Int32) (p2 : Int32) (p3 : Int32) (M : qv_Mem) : Option Int32 :=
 qv_gS t 18 M (fun v1 =>
 (if v1 ≤ (p1 + 1) then
 some 0
 else
 qv_ldI 600 (qv_rf T t 17) p1 M (fun v2 =>
 (if v2 = p2 then
 qv_ldI 600 (qv_rf T t 17) (p1 + 1) M (fun v3 =>
 (if v3 = p3 then
 some 1
 else
 some 0))
 else
 some 0))))
noncomputable def b_X10_cuts_25 (t : Nat) (p2 : Int32) (T : List qv_Ent) (v1 : Int32) (k4 : qv_Mem → Option qv_Mem) : (Int32 → qv_Mem → Option qv_Mem) → Int32 → qv_Mem → Option qv_Mem := fun r13 v11 M12 =>
 qv_gS t 18 M12 (fun v14 =>
 (if v14 ≤ v11 then
 k4 M12
 else
 qv_ldI 600 (qv_rf T t 17) v11 M12 (fun v15 =>
 qv_stI 600 (qv_rf T t 17) ((v11 - p2) + v1) v15 M12 (fun M16 =>
 r13 (v11 + 1) M16))))
noncomputable def f_X10_cuts (T : List qv_Ent) (t : Nat) (p1 : Int32) (p2 : Int32) (p3 : Int32) (p4 : Int32) (M : qv_Mem) : Option qv_Mem :=
 qv_jn (fun (v1 : Int32) =>
 qv_jn (fun (M3 : qv_Mem) =>
 qv_gS t 18 M3 (fun v5 =>
 qv_pS t 18 (v5 + (v1 - p2)) M3 (fun M6 =>
 qv_jn (fun (M7 : qv_Mem) =>
 (if v1 ≤ 1 then
 some M7
 else
 qv_stI 600 (qv_rf T t 17) (p1 + 1) p4 M7 (fun M9 =>
 some M9))) (fun k8 =>
 (if v1 ≤ 0 then
 k8 M6
 else
 qv_stI 600 (qv_rf T t 17) p1 p3 M6 (fun M10 =>
 k8 M10)))))) (fun k4 =>
 qv_lp2 (b_X10_cuts_25 t p2 T v1 k4) qv_N (p1 + p2) M)) (fun k2 =>
 (if 0 ≤ p3 then
 (if 0 ≤ p4 then
 k2 2
 else
 k2 1)
 else
 k2 0))
noncomputable def b_X10_isRuled_66 (t : Nat) (p1 : Int32) (M : qv_Mem) (T : List qv_Ent) (k9 : Int32 → Option (Int32 × qv_Mem)) : (Int32 → Option (Int32 × qv_Mem)) → Int32 → Option (Int32 × qv_Mem) := fun r22 v21 =>
 (if 8 ≤ v21 then
 k9 v21
 else
 qv_gS t 18 M (fun v23 =>
 (if v23 ≤ (p1 + v21) then
 k9 v21
 else
 qv_ldI 600 (qv_rf T t 17) (p1 + v21) M (fun v24 =>
 (if v24 = 5 then
 r22 (v21 + 1)
 else
 k9 v21)))))
noncomputable def f_X10_isRuled (T : List qv_Ent) (t : Nat) (p1 : Int32) (M : qv_Mem) : Option (Int32 × qv_Mem) :=
 qv_bo (f_X10_isPair T t p1 0 0 M) (fun v1 =>
 qv_jn (fun (_ : Unit) =>
 qv_bo (f_X10_cuts T t p1 2 (-2) (-2) M) (fun M3 =>
 some (1, M3))) (fun k2 =>
 (if v1 = 0 then
 qv_bo (f_X10_isPair T t p1 3 3 M) (fun v4 =>
 (if v4 = 0 then
 qv_bo (f_X10_isPair T t p1 4 4 M) (fun v5 =>
 (if v5 = 0 then
 qv_bo (f_X10_isPair T t p1 1 6 M) (fun v6 =>
 (if v6 = 0 then
 qv_bo (f_X10_isPair T t p1 6 1 M) (fun v7 =>
 (if v7 = 0 then
 qv_jn (fun (v8 : Int32) =>
 (if v8 = 8 then
 qv_bo (f_X10_cuts T t p1 8 (-2) (-2) M) (fun M20 =>
 some (1, M20))
 else
 qv_bo (f_X10_isPair T t p1 1 1 M) (fun v10 =>
 (if v10 = 0 then
 qv_bo (f_X10_isPair T t p1 6 6 M) (fun v11 =>
 (if v11 = 0 then
 qv_bo (f_X10_isPair T t p1 2 2 M) (fun v12 =>
 (if v12 = 0 then
 qv_bo (f_X10_isPair T t p1 2 6 M) (fun v13 =>
 qv_jn (fun (_ : Unit) =>
 qv_bo (f_X10_cuts T t p1 2 1 (-2) M) (fun M15 =>
 some (1, M15))) (fun k14 =>
 (if v13 = 0 then
 qv_bo (f_X10_isPair T t p1 6 2 M) (fun v16 =>
 (if v16 = 0 then
 some (0, M)
 else
 k14 ()))
 else
 k14 ())))
 else
 qv_bo (f_X10_cuts T t p1 2 4 (-2) M) (fun M17 =>
 some (1, M17))))
 else
 qv_bo (f_X10_cuts T t p1 2 2 4 M) (fun M18 =>
 some (1, M18))))
 else
 qv_bo (f_X10_cuts T t p1 2 2 (-2) M) (fun M19 =>
 some (1, M19)))))) (fun k9 =>
 qv_lp1 (b_X10_isRuled_66 t p1 M T k9) qv_N 0)
 else
 k2 ()))
 else
 k2 ()))
 else
 k2 ()))
 else
 k2 ()))
 else
 k2 ())))
noncomputable def b_X10_shorter_16 (t : Nat) (T : List qv_Ent) (k4 : qv_Mem → Option (Int32 × qv_Mem)) : (Int32 → qv_Mem → Option (Int32 × qv_Mem)) → Int32 → qv_Mem → Option (Int32 × qv_Mem) := fun r9 v7 M8 =>
 qv_gS t 18 M8 (fun v10 =>
 (if v10 ≤ v7 then
 k4 M8
 else
 qv_bp (f_X10_isRuled T t v7 M8) (fun v11 M12 =>
 qv_jn (fun (v13 : Int32) =>
 r9 v13 M12) (fun k14 =>
 (if v11 = 0 then
 k14 (v7 + 1)
 else
 k14 0)))))
noncomputable def f_X10_shorter (T : List qv_Ent) (t : Nat) (p1 : Int32) (M : qv_Mem) : Option (Int32 × qv_Mem) :=
 qv_bo (f_X10_isWord p1) (fun v1 =>
 (if v1 = 0 then
 some ((-1), M)
 else
 qv_bo (f_X10_takes T t p1 M) (fun M2 =>
 qv_jn (fun (M3 : qv_Mem) =>
 qv_bp (f_X10_becomes T t p1 M3) (fun v5 M6 =>
 some (v5, M6))) (fun k4 =>
 qv_lp2 (b_X10_shorter_16 t T k4) qv_N 0 M2))))
noncomputable def b_X10_isLess_81 (t : Nat) (T : List qv_Ent) (k8 : qv_Mem → Option (Int32 × qv_Mem)) : (Int32 → qv_Mem → Option (Int32 × qv_Mem)) → Int32 → qv_Mem → Option (Int32 × qv_Mem) := fun r11 v9 M10 =>
 (if v9 < 0 then
 k8 M10
 else
 qv_gS t 18 M10 (fun v12 =>
 (if 60 < v12 then
 k8 M10
 else
 qv_gS t 18 M10 (fun v13 =>
 qv_jn (fun (v14 : Int32) =>
 qv_stI 600 (qv_rf T t 17) v13 v14 M10 (fun M16 =>
 qv_gS t 18 M16 (fun v17 =>
 qv_pS t 18 (v17 + 1) M16 (fun M18 =>
 r11 (v9 + (-1)) M18)))) (fun k15 =>
 (if v9 = 2 then
 k15 2
 else
 (if v9 = 1 then
 k15 0
 else
 k15 1)))))))
noncomputable def b_X10_isLess_10 (t : Nat) (T : List qv_Ent) (k3 : qv_Mem → Option (Int32 × qv_Mem)) : (Int32 → qv_Mem → Option (Int32 × qv_Mem)) → Int32 → qv_Mem → Option (Int32 × qv_Mem) := fun r21 v19 M20 =>
 (if v19 < 0 then
 k3 M20
 else
 qv_jn (fun (v22 : Int32) =>
 qv_bo (f_X10_turns T t (4 + v22) 16 M20) (fun M24 =>
 qv_bo (f_X10_product T t 15 16 15 M24) (fun M25 =>
 r21 (v19 + (-1)) M25))) (fun k23 =>
 (if v19 = 2 then
 k23 2
 else
 (if v19 = 1 then
 k23 0
 else
 k23 1))))
noncomputable def f_X10_isLess (T : List qv_Ent) (t : Nat) (p1 : Int32) (p2 : Int32) (M : qv_Mem) : Option (Int32 × qv_Mem) :=
 qv_bo (f_X10_copies T t 18 15 M) (fun M1 =>
 qv_jn (fun (M2 : qv_Mem) =>
 qv_bp (f_X10_channels T t 15 M2) (fun v4 M5 =>
 (if v4 = (p2 - 1) then
 qv_bo (f_X10_copies T t 15 18 M5) (fun M6 =>
 qv_jn (fun (M7 : qv_Mem) =>
 some (1, M7)) (fun k8 =>
 qv_lp2 (b_X10_isLess_81 t T k8) qv_N p1 M6))
 else
 some (0, M5)))) (fun k3 =>
 qv_lp2 (b_X10_isLess_10 t T k3) qv_N p1 M1))
noncomputable def b_X10_normal_35 (t : Nat) (T : List qv_Ent) (k8 : qv_Mem → Option (Int32 × qv_Mem)) : (Int32 → qv_Mem → Option (Int32 × qv_Mem)) → Int32 → qv_Mem → Option (Int32 × qv_Mem) := fun r17 v15 M16 =>
 (if v15 ≤ 0 then
 k8 M16
 else
 qv_gS t 18 M16 (fun v18 =>
 (if 60 < v18 then
 k8 M16
 else
 qv_bp (f_X10_isLess T t 0 v15 M16) (fun v19 M20 =>
 qv_jn (fun (v21 : Int32) (M22 : qv_Mem) =>
 r17 (v15 + (-1)) M22) (fun k23 =>
 (if v19 = 0 then
 qv_bp (f_X10_isLess T t 1 v15 M20) (fun v24 M25 =>
 (if v24 = 0 then
 qv_bp (f_X10_isLess T t 2 v15 M25) (fun v26 M27 =>
 (if v26 = 0 then
 k23 0 M27
 else
 k23 1 M27))
 else
 k23 1 M25))
 else
 k23 1 M20))))))
noncomputable def f_X10_normal (T : List qv_Ent) (t : Nat) (p1 : Int32) (p2 : Int32) (M : qv_Mem) : Option (Int32 × qv_Mem) :=
 qv_bo (f_X10_isWord p1) (fun v1 =>
 (if v1 = 0 then
 some ((-1), M)
 else
 qv_bo (f_X10_isRegister p2) (fun v2 =>
 (if v2 = 0 then
 some ((-1), M)
 else
 qv_pS t 18 0 M (fun M3 =>
 qv_bo (f_X10_copies T t p2 18 M3) (fun M4 =>
 qv_bp (f_X10_channels T t 18 M4) (fun v5 M6 =>
 qv_jn (fun (M7 : qv_Mem) =>
 qv_gS t 18 M7 (fun v9 =>
 (if v9 ≤ 60 then
 qv_bo (f_X10_cliffordOf T t 18 M7) (fun v10 =>
 qv_bo (f_X10_cheapestBehind T t v10 M7) (fun M11 =>
 qv_gS t 18 M11 (fun v12 =>
 (if v12 ≤ 60 then
 qv_bp (f_X10_becomes T t p1 M11) (fun v13 M14 =>
 some (v13, M14))
 else
 some ((-3), M11)))))
 else
 some ((-3), M7)))) (fun k8 =>
 qv_lp2 (b_X10_normal_35 t T k8) qv_N v5 M6))))))))
noncomputable def b_X10_fits_40 (t : Nat) (p1 : Int32) (p2 : Int32) (p3 : Int32) (T : List qv_Ent) (k7 : Int32 → qv_Mem → Option (Int32 × qv_Mem)) : (Int32 → Int32 → qv_Mem → Option (Int32 × qv_Mem)) → Int32 → Int32 → qv_Mem → Option (Int32 × qv_Mem) := fun r11 v8 v9 M10 =>
 (if 7 ≤ v9 then
 k7 v8 M10
 else
 qv_bo (f_X10_valueOf T t 15 p1 60 p2 v9 M10) (fun M12 =>
 qv_bo (f_X10_areSame T t 15 p3 M12) (fun v13 =>
 qv_jn (fun (v14 : Int32) =>
 r11 (v8 ||| v14) (v9 + 1) M12) (fun k15 =>
 (if v13 = 0 then
 k15 0
 else
 k15 (1 <<< (v9 &&& 31)))))))
noncomputable def f_X10_fits (T : List qv_Ent) (t : Nat) (p1 : Int32) (p2 : Int32) (p3 : Int32) (M : qv_Mem) : Option (Int32 × qv_Mem) :=
 qv_bo (f_X10_isWord p1) (fun v1 =>
 (if v1 = 0 then
 some ((-1), M)
 else
 qv_ldI 3 (qv_rf T t 6) p1 M (fun v2 =>
 qv_bo (f_X10_isIn p2.toInt64 0 ((v2 - 1).toInt64)) (fun v3 =>
 (if v3 = 0 then
 some ((-1), M)
 else
 qv_bo (f_X10_isRegister p3) (fun v4 =>
 (if v4 = 0 then
 some ((-1), M)
 else
 qv_jn (fun (v5 : Int32) (M6 : qv_Mem) =>
 some (v5, M6)) (fun k7 =>
 qv_lp3 (b_X10_fits_40 t p1 p2 p3 T k7) qv_N 0 0 M))))))))
noncomputable def b_X10_parts_18 (t : Nat) (p1 : Int32) (p2 : Int32) (T : List qv_Ent) : (Int32 → qv_Mem → Option (Int32 × qv_Mem)) → Int32 → qv_Mem → Option (Int32 × qv_Mem) := fun r5 v3 M4 =>
 qv_ldI 3 (qv_rf T t 6) p1 M4 (fun v6 =>
 qv_jn (fun (_ : Unit) =>
 qv_bo (f_X10_valueOf T t 15 p1 (v3 + 1) (-2) 0 M4) (fun M8 =>
 qv_bo (f_X10_valueOf T t 16 p2 (v3 + 1) (-2) 0 M8) (fun M9 =>
 qv_bo (f_X10_areSame T t 15 16 M9) (fun v10 =>
 (if v10 = 0 then
 some (v3, M9)
 else
 r5 (v3 + 1) M9))))) (fun k7 =>
 (if v3 < v6 then
 k7 ()
 else
 qv_ldI 3 (qv_rf T t 6) p2 M4 (fun v11 =>
 (if v11 ≤ v3 then
 some ((-2), M4)
 else
 k7 ())))))
noncomputable def f_X10_parts (T : List qv_Ent) (t : Nat) (p1 : Int32) (p2 : Int32) (M : qv_Mem) : Option (Int32 × qv_Mem) :=
 qv_bo (f_X10_isWord p1) (fun v1 =>
 (if v1 = 0 then
 some ((-1), M)
 else
 qv_bo (f_X10_isWord p2) (fun v2 =>
 (if v2 = 0 then
 some ((-1), M)
 else
 qv_lp2 (b_X10_parts_18 t p1 p2 T) qv_N 0 M))))
noncomputable def b_X10_undo_47 (t : Nat) (T : List qv_Ent) (v5 : Int32) (k10 : qv_Mem → Option (Int32 × qv_Mem)) : (Int32 → qv_Mem → Option (Int32 × qv_Mem)) → Int32 → qv_Mem → Option (Int32 × qv_Mem) := fun r14 v12 M13 =>
 (if 60 ≤ v12 then
 k10 M13
 else
 qv_gS t 22 M13 (fun v15 =>
 qv_ldI 480 (qv_rf T t 19) ((60 * v15) + v12) M13 (fun v16 =>
 qv_stI 180 (qv_rf T t 5) ((60 * v5) + v12) v16 M13 (fun M17 =>
 r14 (v12 + 1) M17))))
noncomputable def f_X10_undo (T : List qv_Ent) (t : Nat) (M : qv_Mem) : Option (Int32 × qv_Mem) :=
 qv_gS t 22 M (fun v1 =>
 (if v1 = 0 then
 some ((-5), M)
 else
 qv_gS t 22 M (fun v2 =>
 qv_pS t 22 (v2 - 1) M (fun M3 =>
 qv_gS t 22 M3 (fun v4 =>
 qv_ldI 8 (qv_rf T t 21) v4 M3 (fun v5 =>
 qv_gS t 22 M3 (fun v6 =>
 qv_ldI 8 (qv_rf T t 20) v6 M3 (fun v7 =>
 qv_stI 3 (qv_rf T t 6) v5 v7 M3 (fun M8 =>
 qv_jn (fun (M9 : qv_Mem) =>
 qv_gS t 22 M9 (fun v11 =>
 some (v11, M9))) (fun k10 =>
 qv_lp2 (b_X10_undo_47 t T v5 k10) qv_N 0 M8))))))))))
noncomputable def f_X10_feed (T : List qv_Ent) (t : Nat) (p1 : Int32) (M : qv_Mem) : Option (Int32 × qv_Mem) :=
 qv_bo (f_X10_isIn p1.toInt64 32 126) (fun v1 =>
 (if v1 = 0 then
 some ((-1), M)
 else
 qv_gS t 24 M (fun v2 =>
 (if v2 = 80 then
 some ((-3), M)
 else
 qv_gS t 24 M (fun v3 =>
 qv_stI 80 (qv_rf T t 23) v3 p1 M (fun M4 =>
 qv_gS t 24 M4 (fun v5 =>
 qv_pS t 24 (v5 + 1) M4 (fun M6 =>
 qv_gS t 24 M6 (fun v7 =>
 some (v7, M6))))))))))
noncomputable def f_X10_wipe (T : List qv_Ent) (t : Nat) (M : qv_Mem) : Option (Int32 × qv_Mem) :=
 qv_gS t 24 M (fun v1 =>
 qv_pS t 24 0 M (fun M2 =>
 some (v1, M2)))
noncomputable def f_X10_here (T : List qv_Ent) (t : Nat) (M : qv_Mem) : Option Int32 :=
 qv_gS t 25 M (fun v1 =>
 qv_gS t 24 M (fun v2 =>
 (if v2 ≤ v1 then
 some (-2)
 else
 qv_gS t 25 M (fun v3 =>
 qv_ldI 80 (qv_rf T t 23) v3 M (fun v4 =>
 some v4)))))
noncomputable def f_X10_gateBy (p0 : Int32) : Option Int32 :=
 (if p0 = 72 then
 some 0
 else
 (if p0 = 83 then
 some 2
 else
 (if p0 = 84 then
 some 1
 else
 (if p0 = 85 then
 some 6
 else
 (if p0 = 87 then
 some 5
 else
 (if p0 = 88 then
 some 3
 else
 (if p0 = 90 then
 some 4
 else
 some (-2))))))))
noncomputable def f_X10_begins (T : List qv_Ent) (t : Nat) (M : qv_Mem) : Option Int32 :=
 qv_bo (f_X10_here T t M) (fun v1 =>
 qv_bo (f_X10_gateBy v1) (fun v2 =>
 (if v2 = (-2) then
 qv_bo (f_X10_here T t M) (fun v3 =>
 (if v3 = 126 then
 some 1
 else
 qv_bo (f_X10_here T t M) (fun v4 =>
 (if v4 = 40 then
 qv_gS t 26 M (fun v5 =>
 (if 4 ≤ v5 then
 some 0
 else
 some 1))
 else
 some 0))))
 else
 some 1)))
noncomputable def f_X10_puts (T : List qv_Ent) (t : Nat) (p1 : Int32) (M : qv_Mem) : Option qv_Mem :=
 qv_gS t 27 M (fun v1 =>
 (if v1 = 0 then
 qv_gS t 18 M (fun v2 =>
 qv_stI 600 (qv_rf T t 17) v2 p1 M (fun M3 =>
 qv_gS t 18 M3 (fun v4 =>
 qv_pS t 18 (v4 + 1) M3 (fun M5 =>
 some M5))))
 else
 some M))
noncomputable def b_X10_reverses_176 (t : Nat) (T : List qv_Ent) (v16 : Int32) (k23 : qv_Mem → Option qv_Mem) : (Int32 → qv_Mem → Option qv_Mem) → Int32 → qv_Mem → Option qv_Mem := fun r26 v24 M25 =>
 (if 7 ≤ v24 then
 k23 M25
 else
 (if v16 = 5 then
 qv_bo (f_X10_puts T t 5 M25) (fun M27 =>
 r26 (v24 + 1) M27)
 else
 k23 M25))
noncomputable def b_X10_reverses_120 (t : Nat) (T : List qv_Ent) (k12 : qv_Mem → Option qv_Mem) : (Int32 → qv_Mem → Option qv_Mem) → Int32 → qv_Mem → Option qv_Mem := fun r15 v13 M14 =>
 (if v13 < 0 then
 k12 M14
 else
 qv_ldI 120 (qv_rf T t 28) v13 M14 (fun v16 =>
 qv_jn (fun (v17 : Int32) =>
 qv_bo (f_X10_puts T t v17 M14) (fun M19 =>
 qv_jn (fun (M20 : qv_Mem) =>
 qv_jn (fun (M22 : qv_Mem) =>
 r15 (v13 + (-1)) M22) (fun k23 =>
 qv_lp2 (b_X10_reverses_176 t T v16 k23) qv_N 1 M20)) (fun k21 =>
 (if v16 = 2 then
 qv_bo (f_X10_puts T t 4 M19) (fun M28 =>
 k21 M28)
 else
 k21 M19)))) (fun k18 =>
 (if v16 = 1 then
 k18 6
 else
 (if v16 = 6 then
 k18 1
 else
 k18 v16)))))
noncomputable def b_X10_reverses_12 (t : Nat) (p1 : Int32) (T : List qv_Ent) (v1 : Int32) (k4 : Int32 → qv_Mem → Option qv_Mem) : (Int32 → Int32 → qv_Mem → Option qv_Mem) → Int32 → Int32 → qv_Mem → Option qv_Mem := fun r32 v29 v30 M31 =>
 (if (v1 - p1) ≤ v30 then
 k4 v29 M31
 else
 qv_gS t 27 M31 (fun v33 =>
 (if v33 = 0 then
 qv_ldI 600 (qv_rf T t 17) (p1 + v30) M31 (fun v34 =>
 qv_stI 120 (qv_rf T t 28) v30 v34 M31 (fun M35 =>
 qv_ldI 120 (qv_rf T t 28) v30 M35 (fun v36 =>
 qv_jn (fun (v37 : Int32) =>
 r32 (v29 + v37) (v30 + 1) M35) (fun k38 =>
 (if v36 = 2 then
 k38 2
 else
 qv_ldI 120 (qv_rf T t 28) v30 M35 (fun v39 =>
 (if v39 = 5 then
 k38 7
 else
 k38 1)))))))
 else
 k4 v29 M31)))
noncomputable def f_X10_reverses (T : List qv_Ent) (t : Nat) (p1 : Int32) (M : qv_Mem) : Option qv_Mem :=
 qv_gS t 18 M (fun v1 =>
 qv_jn (fun (v2 : Int32) (M3 : qv_Mem) =>
 qv_gS t 27 M3 (fun v5 =>
 qv_jn (fun (v6 : Int32) =>
 qv_pZ t 27 (v5 ||| v6) M3 (fun M8 =>
 qv_gS t 27 M8 (fun v9 =>
 (if v9 = 0 then
 qv_pS t 18 p1 M8 (fun M10 =>
 qv_jn (fun (M11 : qv_Mem) =>
 some M11) (fun k12 =>
 qv_lp2 (b_X10_reverses_120 t T k12) qv_N ((v1 - p1) - 1) M10))
 else
 some M8)))) (fun k7 =>
 (if v2 ≤ 60 then
 k7 0
 else
 k7 1)))) (fun k4 =>
 qv_lp3 (b_X10_reverses_12 t p1 T v1 k4) qv_N 0 0 M))
noncomputable def f_X10_all (T : List qv_Ent) (t : Nat) (M : qv_Mem) : Option Int32 :=
 qv_ldI 3 (qv_rf T t 6) 0 M (fun v1 =>
 qv_ldI 3 (qv_rf T t 6) 1 M (fun v2 =>
 qv_ldI 3 (qv_rf T t 6) 2 M (fun v3 =>
 some ((v1 + v2) + v3))))
noncomputable def b_X10_image_80 (t : Nat) (T : List qv_Ent) (k8 : qv_Mem → Option (Int32 × qv_Mem)) : (Int32 → qv_Mem → Option (Int32 × qv_Mem)) → Int32 → qv_Mem → Option (Int32 × qv_Mem) := fun r13 v11 M12 =>
 (if 7 ≤ v11 then
 k8 M12
 else
 qv_ldI 7 (qv_rf T t 3) v11 M12 (fun v14 =>
 qv_stI 7 (qv_rf T t 4) v11 v14 M12 (fun M15 =>
 r13 (v11 + 1) M15)))
noncomputable def b_X10_image_55 (t : Nat) (T : List qv_Ent) (k6 : qv_Mem → Option (Int32 × qv_Mem)) : (Int32 → qv_Mem → Option (Int32 × qv_Mem)) → Int32 → qv_Mem → Option (Int32 × qv_Mem) := fun r18 v16 M17 =>
 (if 3 ≤ v16 then
 k6 M17
 else
 qv_ldI 3 (qv_rf T t 6) v16 M17 (fun v19 =>
 qv_stI 3 (qv_rf T t 8) v16 v19 M17 (fun M20 =>
 r18 (v16 + 1) M20)))
noncomputable def b_X10_image_28 (t : Nat) (T : List qv_Ent) (k4 : qv_Mem → Option (Int32 × qv_Mem)) : (Int32 → qv_Mem → Option (Int32 × qv_Mem)) → Int32 → qv_Mem → Option (Int32 × qv_Mem) := fun r23 v21 M22 =>
 (if 180 ≤ v21 then
 k4 M22
 else
 qv_ldI 180 (qv_rf T t 5) v21 M22 (fun v24 =>
 qv_stI 180 (qv_rf T t 7) v21 v24 M22 (fun M25 =>
 r23 (v21 + 1) M25)))
noncomputable def b_X10_image_2 (t : Nat) (T : List qv_Ent) (k2 : qv_Mem → Option (Int32 × qv_Mem)) : (Int32 → qv_Mem → Option (Int32 × qv_Mem)) → Int32 → qv_Mem → Option (Int32 × qv_Mem) := fun r28 v26 M27 =>
 (if 68 ≤ v26 then
 k2 M27
 else
 qv_ldL 340 (qv_rf T t 0) v26 M27 (fun v29 =>
 qv_stL 68 (qv_rf T t 2) v26 v29 M27 (fun M30 =>
 r28 (v26 + 1) M30)))
noncomputable def f_X10_image (T : List qv_Ent) (t : Nat) (M : qv_Mem) : Option (Int32 × qv_Mem) :=
 qv_jn (fun (M1 : qv_Mem) =>
 qv_jn (fun (M3 : qv_Mem) =>
 qv_jn (fun (M5 : qv_Mem) =>
 qv_jn (fun (M7 : qv_Mem) =>
 qv_pZ t 9 1 M7 (fun M9 =>
 qv_bo (f_X10_all T t M9) (fun v10 =>
 some (v10, M9)))) (fun k8 =>
 qv_lp2 (b_X10_image_80 t T k8) qv_N 0 M5)) (fun k6 =>
 qv_lp2 (b_X10_image_55 t T k6) qv_N 0 M3)) (fun k4 =>
 qv_lp2 (b_X10_image_28 t T k4) qv_N 0 M1)) (fun k2 =>
 qv_lp2 (b_X10_image_2 t T k2) qv_N 0 M)
noncomputable def b_X10_restore_90 (t : Nat) (T : List qv_Ent) (k9 : qv_Mem → Option (Int32 × qv_Mem)) : (Int32 → qv_Mem → Option (Int32 × qv_Mem)) → Int32 → qv_Mem → Option (Int32 × qv_Mem) := fun r14 v12 M13 =>
 (if 7 ≤ v12 then
 k9 M13
 else
 qv_ldI 7 (qv_rf T t 4) v12 M13 (fun v15 =>
 qv_stI 7 (qv_rf T t 3) v12 v15 M13 (fun M16 =>
 r14 (v12 + 1) M16)))
noncomputable def b_X10_restore_65 (t : Nat) (T : List qv_Ent) (k7 : qv_Mem → Option (Int32 × qv_Mem)) : (Int32 → qv_Mem → Option (Int32 × qv_Mem)) → Int32 → qv_Mem → Option (Int32 × qv_Mem) := fun r19 v17 M18 =>
 (if 3 ≤ v17 then
 k7 M18
 else
 qv_ldI 3 (qv_rf T t 8) v17 M18 (fun v20 =>
 qv_stI 3 (qv_rf T t 6) v17 v20 M18 (fun M21 =>
 r19 (v17 + 1) M21)))
noncomputable def b_X10_restore_38 (t : Nat) (T : List qv_Ent) (k5 : qv_Mem → Option (Int32 × qv_Mem)) : (Int32 → qv_Mem → Option (Int32 × qv_Mem)) → Int32 → qv_Mem → Option (Int32 × qv_Mem) := fun r24 v22 M23 =>
 (if 180 ≤ v22 then
 k5 M23
 else
 qv_ldI 180 (qv_rf T t 7) v22 M23 (fun v25 =>
 qv_stI 180 (qv_rf T t 5) v22 v25 M23 (fun M26 =>
 r24 (v22 + 1) M26)))
noncomputable def b_X10_restore_12 (t : Nat) (T : List qv_Ent) (k3 : qv_Mem → Option (Int32 × qv_Mem)) : (Int32 → qv_Mem → Option (Int32 × qv_Mem)) → Int32 → qv_Mem → Option (Int32 × qv_Mem) := fun r29 v27 M28 =>
 (if 68 ≤ v27 then
 k3 M28
 else
 qv_ldL 68 (qv_rf T t 2) v27 M28 (fun v30 =>
 qv_stL 340 (qv_rf T t 0) v27 v30 M28 (fun M31 =>
 r29 (v27 + 1) M31)))
noncomputable def f_X10_restore (T : List qv_Ent) (t : Nat) (M : qv_Mem) : Option (Int32 × qv_Mem) :=
 qv_gS t 9 M (fun v1 =>
 (if v1 = 0 then
 some ((-5), M)
 else
 qv_jn (fun (M2 : qv_Mem) =>
 qv_jn (fun (M4 : qv_Mem) =>
 qv_jn (fun (M6 : qv_Mem) =>
 qv_jn (fun (M8 : qv_Mem) =>
 qv_pS t 22 0 M8 (fun M10 =>
 qv_bo (f_X10_all T t M10) (fun v11 =>
 some (v11, M10)))) (fun k9 =>
 qv_lp2 (b_X10_restore_90 t T k9) qv_N 0 M6)) (fun k7 =>
 qv_lp2 (b_X10_restore_65 t T k7) qv_N 0 M4)) (fun k5 =>
 qv_lp2 (b_X10_restore_38 t T k5) qv_N 0 M2)) (fun k3 =>
 qv_lp2 (b_X10_restore_12 t T k3) qv_N 0 M)))
noncomputable def b_X10_told_53 (t : Nat) (p1 : Int32) (M : qv_Mem) (T : List qv_Ent) (v9 : Int32) (k12 : Int32 → Option Int32) : (Int32 → Int32 → Option Int32) → Int32 → Int32 → Option Int32 := fun r15 v13 v14 =>
 qv_ldI 3 (qv_rf T t 6) v9 M (fun v16 =>
 (if v16 ≤ v14 then
 k12 v13
 else
 qv_ldI 180 (qv_rf T t 5) ((60 * v9) + v14) M (fun v17 =>
 qv_jn (fun (v18 : Int32) =>
 r15 (v13 + v18) (v14 + 1)) (fun k19 =>
 (if v17 = (p1 - 3) then
 k19 1
 else
 k19 0)))))
noncomputable def b_X10_told_44 (t : Nat) (p1 : Int32) (M : qv_Mem) (T : List qv_Ent) (k5 : Int32 → Option Int32) : (Int32 → Int32 → Option Int32) → Int32 → Int32 → Option Int32 := fun r10 v8 v9 =>
 (if 3 ≤ v9 then
 k5 v8
 else
 qv_jn (fun (v11 : Int32) =>
 r10 v11 (v9 + 1)) (fun k12 =>
 qv_lp2 (b_X10_told_53 t p1 M T v9 k12) qv_N v8 0))
noncomputable def b_X10_told_18 (t : Nat) (M : qv_Mem) (T : List qv_Ent) (k3 : Int32 → Option Int32) : (Int32 → Int32 → Option Int32) → Int32 → Int32 → Option Int32 := fun r22 v20 v21 =>
 (if 7 ≤ v21 then
 k3 v20
 else
 qv_ldI 7 (qv_rf T t 3) v21 M (fun v23 =>
 r22 (v20 + v23) (v21 + 1)))
noncomputable def f_X10_told (T : List qv_Ent) (t : Nat) (p1 : Int32) (M : qv_Mem) : Option Int32 :=
 qv_bo (f_X10_isIn p1.toInt64 0 9) (fun v1 =>
 (if v1 = 0 then
 some (-1)
 else
 qv_jn (fun (v2 : Int32) =>
 qv_jn (fun (v4 : Int32) =>
 (if p1 = 0 then
 qv_gS t 22 M (fun v7 =>
 some v7)
 else
 (if p1 = 1 then
 qv_gS t 24 M (fun v6 =>
 some v6)
 else
 (if p1 = 2 then
 some v2
 else
 some v4)))) (fun k5 =>
 qv_lp2 (b_X10_told_44 t p1 M T k5) qv_N 0 0)) (fun k3 =>
 qv_lp2 (b_X10_told_18 t M T k3) qv_N 0 0)))
