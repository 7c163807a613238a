/-! The reference's constructor; then the law from its start. -/
def zZ (M : qv_Mem) : Prop := ∀ a, 106 ≤ a → (∀ j, M.1 a j = 0) ∧ (∀ j, M.2.1 a j = 0) ∧ ∀ j, M.2.2 a j = 0
theorem zZ.zr {M : qv_Mem} (h : zZ M) (c : Nat) : zZ (qv_zr M c) := by
  intro a ha
  obtain ⟨h1, h2, h3⟩ := h a ha
  refine ⟨fun j => ?_, fun j => ?_, fun j => ?_⟩
  · show (if a = c then 0 else M.1 a j) = 0
    rw [h1]; exact ite_self 0
  · show (if a = c then 0 else M.2.1 a j) = 0
    rw [h2]; exact ite_self 0
  · show (if a = c then 0 else M.2.2 a j) = 0
    rw [h3]; exact ite_self 0
theorem kalz {M : qv_Mem} {c : Nat} {k : qv_Mem → Option qv_Mem} {Q : qv_Mem → Prop} (hz : zZ M) (h : ∀ M1, zZ M1 → zfi c (c + 1) M M1 → kO (k M1) Q) : kO (qv_al c M k) Q := h _ (hz.zr c) (zfi_zr M c)
theorem kbo {M1 : qv_Mem} {oo : Option qv_Mem} {k : qv_Mem → Option qv_Mem} {Q : qv_Mem → Prop} (e : oo = some M1) (h : kO (k M1) Q) : kO (qv_bo oo k) Q := by
  rw [e, zbo]
  exact h
theorem yN {T : List qv_Ent} {t q : Nat} (hq : qv_rf T t 0 = q) (M : qv_Mem) (F : Nat → Int64) (v : Int64) (s i k : Nat) {a b c : Int32} (ha : a = nI s) (hb : b = nI i) (hc : c = nI k) (h : 17 * s + 4 * i + k < 340) : f_X10_number T t a b c v (zf M q F) = some (zf M q (zu F (17 * s + 4 * i + k) v)) := by
  rw [ha, hb, hc]
  exact y_number hq M F v h
theorem yC {T : List qv_Ent} {t q : Nat} (hq : qv_rf T t 0 = q) (M : qv_Mem) (F : Nat → Int64) (s i : Nat) {a b : Int32} (ha : a = nI s) (hb : b = nI i) (h1 : s < 20) (h2 : i < 20) : f_X10_copies T t a b (zf M q F) = some (zf M q (y_co F s i 17)) := by
  rw [ha, hb]
  exact y_copies hq M F h1 h2
def yG1 (F : Nat → Int64) : Nat → Nat → Int64
  | 0 => F
  | i + 1 => zu (yG1 F i) (17 * 4 + 4 * i + 0) (if i = 3 then -1 else 1)
def yG2 (F : Nat → Int64) : Nat → Nat → Int64
  | 0 => F
  | i + 1 => if i = 0 ∨ i = 3 ∨ i = 5 then yG2 F i else zu (yG2 F i) (17 * (4 + i) + 4 * 0 + 0) 1
theorem y_gl1 {T : List qv_Ent} {t q : Nat} (hq : qv_rf T t 0 = q) (M : qv_Mem) (F : Nat → Int64) (k : qv_Mem → Option qv_Mem) : qv_lp2 (b_X10_gates_2 t T k) qv_N 0 (zf M q F) = k (zf M q (yG1 F 4)) := by
  rw [zi_0]
  refine zfor2 (s := fun i => zf M q (yG1 F i)) (k := k) 0 4 (by omega) (fun i r h0 hi => ?_) (fun r => ?_) qv_N (qv_N_gt _ (by decide))
  · unfold b_X10_gates_2
    rw [zl4, if_neg (zi_nle (by omega) (by omega)), zjn]
    have e : ∀ v : Int64, qv_bo (f_X10_number T t (nI 4) (nI i) 0 v (zf M q (yG1 F i))) (fun M29 => r (nI i + 1) M29) = r (nI (i + 1)) (zf M q (zu (yG1 F i) (17 * 4 + 4 * i + 0) v)) := fun v => by
      rw [yN hq M (yG1 F i) v 4 i 0 (c := 0) rfl rfl rfl (by omega), zbo, show nI i + 1 = nI (i + 1) from nI_add i 1]
    by_cases h3 : i = 3
    · subst h3
      rw [if_pos (show nI 3 = 3 from id rfl)]
      exact e (-1)
    · have n3 : ¬ nI i = 3 := by
        rw [zl3, zi_eq (by omega) (by omega)]
        exact h3
      rw [if_neg n3]
      refine (e 1).trans ?_
      show _ = r (nI (i + 1)) (zf M q (zu (yG1 F i) (17 * 4 + 4 * i + 0) (if i = 3 then -1 else 1)))
      rw [if_neg h3]
  · unfold b_X10_gates_2
    rw [zl4, if_pos (nI_le (Nat.le_refl _) (by omega))]
theorem y_gl2 {T : List qv_Ent} {t q : Nat} (hq : qv_rf T t 0 = q) (M : qv_Mem) (F : Nat → Int64) (k : qv_Mem → Option qv_Mem) : qv_lp2 (b_X10_gates_60 t T k) qv_N 0 (zf M q F) = k (zf M q (yG2 F 7)) := by
  rw [zi_0]
  refine zfor2 (s := fun i => zf M q (yG2 F i)) (k := k) 0 7 (by omega) (fun i r h0 hi => ?_) (fun r => ?_) qv_N (qv_N_gt _ (by decide))
  · have a1 : nI i + 1 = nI (i + 1) := nI_add i 1
    have a4 : 4 + nI i = nI (4 + i) := nI_add 4 i
    unfold b_X10_gates_60
    rw [zl7, if_neg (zi_nle (by omega) (by omega)), zjn, a1, a4]
    have c0 : (nI i = 0) = (i = 0) := zi_eq (b := 0) (by omega) (by omega)
    have c3 : (nI i = 3) = (i = 3) := zi_eq (b := 3) (by omega) (by omega)
    have c5 : (nI i = 5) = (i = 5) := zi_eq (b := 5) (by omega) (by omega)
    by_cases h0 : i = 0
    · rw [if_pos (c0.mpr h0)]
      show _ = r (nI (i + 1)) (zf M q (if i = 0 ∨ i = 3 ∨ i = 5 then yG2 F i else _))
      rw [if_pos (by omega)]
    rw [if_neg (fun h => h0 (c0.mp h))]
    by_cases h3 : i = 3
    · rw [if_pos (c3.mpr h3)]
      show _ = r (nI (i + 1)) (zf M q (if i = 0 ∨ i = 3 ∨ i = 5 then yG2 F i else _))
      rw [if_pos (by omega)]
    rw [if_neg (fun h => h3 (c3.mp h))]
    by_cases h5 : i = 5
    · rw [if_pos (c5.mpr h5)]
      show _ = r (nI (i + 1)) (zf M q (if i = 0 ∨ i = 3 ∨ i = 5 then yG2 F i else _))
      rw [if_pos (by omega)]
    rw [if_neg (fun h => h5 (c5.mp h)), yN hq M (yG2 F i) 1 (4 + i) 0 0 (b := 0) (c := 0) rfl rfl rfl (by omega), zbo]
    show _ = r (nI (i + 1)) (zf M q (if i = 0 ∨ i = 3 ∨ i = 5 then yG2 F i else _))
    rw [if_neg (by omega)]
  · unfold b_X10_gates_60
    rw [zl7, if_pos (nI_le (Nat.le_refl _) (by omega))]
def yGa (F : Nat → Int64) : Nat → Int64 := yG2 (zu (zu (zu (yG1 F 4) 84 1) (17 * 7 + 4 * 1 + 0) 1) (17 * 7 + 4 * 2 + 0) 1) 7
def yGb (F : Nat → Int64) : Nat → Int64 := y_co (zu (zu (zu (zu (zu (zu F (17 * 5 + 4 * 3 + 1) 1) (17 * 6 + 4 * 3 + 2) 1) (17 * 8 + 4 * 3 + 0) (-1)) (17 * 9 + 4 * 0 + 1) 1) (17 * 9 + 4 * 3 + 1) 1) (17 * 10 + 4 * 3 + 3) (-1)) 7 11 17
def yGc (F : Nat → Int64) : Nat → Int64 := y_co (zu (zu F (17 * 12 + 4 * 1 + 2) (-1)) (17 * 12 + 4 * 2 + 2) 1) 8 13 17
theorem y_gates {T : List qv_Ent} {t q : Nat} (hq : qv_rf T t 0 = q) (M : qv_Mem) (F : Nat → Int64) : f_X10_gates T t (zf M q F) = some (zf M q (yGc (yGb (yGa F)))) := by
  unfold f_X10_gates
  rw [zjn, y_gl1 hq, hq, show (84 : Int32) = nI 84 from id rfl, zi_stL (by omega) (by omega), zf_up]
  rw [yN hq M _ _ 7 1 0 (a := 7) (b := 1) (c := 0) rfl rfl rfl (by omega), zbo]
  rw [yN hq M _ _ 7 2 0 (a := 7) (b := 2) (c := 0) rfl rfl rfl (by omega), zbo]
  rw [zjn, y_gl2 hq]
  rw [yN hq M _ _ 5 3 1 (a := 5) (b := 3) (c := 1) rfl rfl rfl (by omega), zbo]
  rw [yN hq M _ _ 6 3 2 (a := 6) (b := 3) (c := 2) rfl rfl rfl (by omega), zbo]
  rw [yN hq M _ _ 8 3 0 (a := 8) (b := 3) (c := 0) rfl rfl rfl (by omega), zbo]
  rw [yN hq M _ _ 9 0 1 (a := 9) (b := 0) (c := 1) rfl rfl rfl (by omega), zbo]
  rw [yN hq M _ _ 9 3 1 (a := 9) (b := 3) (c := 1) rfl rfl rfl (by omega), zbo]
  rw [yN hq M _ _ 10 3 3 (a := 10) (b := 3) (c := 3) rfl rfl rfl (by omega), zbo]
  rw [yC hq M _ 7 11 (a := 7) (b := 11) rfl rfl (by omega) (by omega), zbo]
  rw [yN hq M _ _ 12 1 2 (a := 12) (b := 1) (c := 2) rfl rfl rfl (by omega), zbo]
  rw [yN hq M _ _ 12 2 2 (a := 12) (b := 2) (c := 2) rfl rfl rfl (by omega), zbo]
  rw [yC hq M _ 8 13 (a := 8) (b := 13) rfl rfl (by omega) (by omega), zbo]
  rfl
def yF0 : Nat → Int64 := yGc (yGb (yGa (zu (zu (fun _ => 0) (17 * 14 + 4 * 0 + 0) 1) (17 * 14 + 4 * 3 + 0) 1)))
def yF : Nat → Int64 := y_co (y_co (y_co (y_co yF0 14 0 17) 14 1 17) 14 2 17) 14 3 17
def yst0 (s : Nat) (A : zq_T) : Bool := (List.range 16).all (fun j => decide (yF (17 * s + j) = Int64.ofInt (zc A.1 j))) && decide (yF (17 * s + 16) = Int64.ofInt (A.2 : Int))
theorem yst0_S {M : qv_Mem} {s : Nat} {A : zq_T} (h : yst0 s A = true) : zS (zf M 107 yF) 107 s A := by
  unfold yst0 at h
  rw [Bool.and_eq_true, List.all_eq_true] at h
  refine ⟨fun j hj => ?_, ?_⟩
  · show (zf M 107 yF).2.1 107 (17 * s + j) = _
    rw [zf_at]
    exact of_decide_eq_true (h.1 j (List.mem_range.mpr hj))
  · rw [zf_at]
    exact of_decide_eq_true h.2
theorem yst0_r : ∀ r, r < 4 → yst0 r zq_one = true := by decide +kernel
theorem yst0_g : ∀ g, g < 7 → yst0 (4 + g) (zq_gt g) = true := by decide +kernel
theorem yst0_11 : yst0 11 (zq_gt 3) = true := by decide +kernel
theorem yst0_12 : yst0 12 zq_Y = true := by decide +kernel
theorem yst0_13 : yst0 13 (zq_gt 4) = true := by decide +kernel
theorem yst0_14 : yst0 14 zq_one = true := by decide +kernel
