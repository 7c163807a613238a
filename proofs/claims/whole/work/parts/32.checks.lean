/-! What both sides ask of an argument first. -/
abbrev zr (p : Int32) (n : Nat) : Prop := p.toInt < 0 ∨ (n : Int) ≤ p.toInt
theorem zr_in (p : Int32) (n : Nat) : (∃ i, i < n ∧ i < 2147483648 ∧ p = nI i) ∨ zr p n := by
  rcases Classical.em (zr p n) with h | h
  · exact Or.inr h
  · have h1 : 0 ≤ p.toInt := by unfold zr at h; omega
    have h2 : p.toInt < n := by unfold zr at h; omega
    have h3 : p.toInt < 2147483648 := Int32.toInt_lt p
    refine Or.inl ⟨p.toInt.toNat, by omega, by omega, ?_⟩
    apply Int32.toInt_inj.mp
    rw [nI_toInt (by omega)]
    omega
theorem zr_z : (0 : Int32).toInt = 0 := by decide
theorem x_below {i n : Nat} (h : i < n) (hn : n < 2147483648) : f_X9_isBelow (nI i) (nI n) = some 1 := by
  unfold f_X9_isBelow
  rw [if_neg (nI_pos (by omega)), if_neg (nI_ge h hn)]
theorem x_below0 {p : Int32} {n : Nat} (h : zr p n) (hn : n < 2147483648) : f_X9_isBelow p (nI n) = some 0 := by
  unfold f_X9_isBelow
  rcases h with h | h
  · rw [if_pos (show p < 0 from Int32.lt_iff_toInt_lt.mpr (by rw [zr_z]; exact h))]
  · rw [if_neg (show ¬ p < 0 from fun e => by have := Int32.lt_iff_toInt_lt.mp e; rw [zr_z] at this; omega), if_pos (show nI n ≤ p from Int32.le_iff_toInt_le.mpr (by rw [nI_toInt hn]; exact h))]
theorem y_in {i n : Nat} {u : Int64} (h : i < n) (hn : n < 2147483648) (hu : u.toInt + 1 = n) : f_X10_isIn (nI i).toInt64 0 u = some 1 := by
  unfold f_X10_isIn
  have e : (nI i).toInt64.toInt = (i : Int) := by rw [Int32.toInt_toInt64, nI_toInt (by omega)]
  have z : (0 : Int64).toInt = 0 := by decide
  rw [if_neg (fun q => by have := Int64.lt_iff_toInt_lt.mp ((lg_cmp_lt _ _).mp q); rw [e, z] at this; omega), if_neg (fun q => by have := Int64.lt_iff_toInt_lt.mp ((lg_cmp_gt _ _).mp q); rw [e] at this; omega)]
theorem y_in0 {p : Int32} {n : Nat} {u : Int64} (h : zr p n) (hu : u.toInt + 1 = n) : f_X10_isIn p.toInt64 0 u = some 0 := by
  unfold f_X10_isIn
  have e : p.toInt64.toInt = p.toInt := Int32.toInt_toInt64 p
  have z : (0 : Int64).toInt = 0 := by decide
  rcases h with h | h
  · rw [if_pos ((lg_cmp_lt _ _).mpr (Int64.lt_iff_toInt_lt.mpr (by rw [e, z]; exact h)))]
  · rw [if_neg (fun q => by have := Int64.lt_iff_toInt_lt.mp ((lg_cmp_lt _ _).mp q); rw [e, z] at this; omega), if_pos ((lg_cmp_gt _ _).mpr (Int64.lt_iff_toInt_lt.mpr (by rw [e]; omega)))]
theorem zgd {α : Type} (o : Option α) : qv_gd true o = o := id rfl
theorem z01a : qv_01 1 = true := by decide
theorem z01b : qv_01 0 = true := by decide
theorem zl4 : (4 : Int32) = nI 4 := id rfl
theorem zl7 : (7 : Int32) = nI 7 := id rfl
theorem zl3 : (3 : Int32) = nI 3 := id rfl
theorem x_isReg {i : Nat} (h : i < 4) : f_X9_isRegister (nI i) = some 1 := by
  unfold f_X9_isRegister
  rw [zl4, x_below h (by omega), zbo, z01a, zgd]
theorem x_isReg0 {p : Int32} (h : zr p 4) : f_X9_isRegister p = some 0 := by
  unfold f_X9_isRegister
  rw [zl4, x_below0 h (by omega), zbo, z01b, zgd]
theorem x_isGate {i : Nat} (h : i < 7) : f_X9_isGate (nI i) = some 1 := by
  unfold f_X9_isGate
  rw [zl7, x_below h (by omega), zbo, z01a, zgd]
theorem x_isGate0 {p : Int32} (h : zr p 7) : f_X9_isGate p = some 0 := by
  unfold f_X9_isGate
  rw [zl7, x_below0 h (by omega), zbo, z01b, zgd]
theorem x_isWord {i : Nat} (h : i < 3) : f_X9_isWord (nI i) = some 1 := by
  unfold f_X9_isWord
  rw [zl3, x_below h (by omega), zbo, z01a, zgd]
theorem x_isWord0 {p : Int32} (h : zr p 3) : f_X9_isWord p = some 0 := by
  unfold f_X9_isWord
  rw [zl3, x_below0 h (by omega), zbo, z01b, zgd]
theorem y_isReg {i : Nat} (h : i < 4) : f_X10_isRegister (nI i) = some 1 := by
  unfold f_X10_isRegister
  rw [y_in h (by omega) (by decide), zbo, z01a, zgd]
theorem y_isReg0 {p : Int32} (h : zr p 4) : f_X10_isRegister p = some 0 := by
  unfold f_X10_isRegister
  rw [y_in0 h (by decide), zbo, z01b, zgd]
theorem y_isGate {i : Nat} (h : i < 7) : f_X10_isGate (nI i) = some 1 := by
  unfold f_X10_isGate
  rw [y_in h (by omega) (by decide), zbo, z01a, zgd]
theorem y_isGate0 {p : Int32} (h : zr p 7) : f_X10_isGate p = some 0 := by
  unfold f_X10_isGate
  rw [y_in0 h (by decide), zbo, z01b, zgd]
theorem y_isWord {i : Nat} (h : i < 3) : f_X10_isWord (nI i) = some 1 := by
  unfold f_X10_isWord
  rw [y_in h (by omega) (by decide), zbo, z01a, zgd]
theorem y_isWord0 {p : Int32} (h : zr p 3) : f_X10_isWord p = some 0 := by
  unfold f_X10_isWord
  rw [y_in0 h (by decide), zbo, z01b, zgd]
/-! Where the parts of both sides lie. -/
theorem zt_work : qv_rf qv_TT 0 10 = 98 := by decide +kernel
theorem zt_bench : qv_rf qv_TT 0 0 = 1 := by decide +kernel
theorem zt_regs : qv_rf qv_TT 1 0 = 2 := by decide +kernel
theorem zt_wrds : qv_rf qv_TT 1 1 = 3 := by decide +kernel
theorem zt_reg {r : Nat} (h : r < 4) : qv_rf qv_TT 2 r = 5 + 2 * r := by
  match r, h with
  | 0, _ => decide +kernel
  | 1, _ => decide +kernel
  | 2, _ => decide +kernel
  | 3, _ => decide +kernel
  | r + 4, h => omega
theorem zt_wrd {r : Nat} (h : r < 3) : qv_rf qv_TT 3 r = 13 + 2 * r := by
  match r, h with
  | 0, _ => decide +kernel
  | 1, _ => decide +kernel
  | 2, _ => decide +kernel
  | r + 3, h => omega
theorem zt_rl {r : Nat} (h : r < 4) : qv_rf qv_TT (5 + 2 * r) 0 = 6 + 2 * r := by
  match r, h with
  | 0, _ => decide +kernel
  | 1, _ => decide +kernel
  | 2, _ => decide +kernel
  | 3, _ => decide +kernel
  | r + 4, h => omega
theorem zt_wl {r : Nat} (h : r < 3) : qv_rf qv_TT (13 + 2 * r) 0 = 14 + 2 * r := by
  match r, h with
  | 0, _ => decide +kernel
  | 1, _ => decide +kernel
  | 2, _ => decide +kernel
  | r + 3, h => omega
theorem zt_wk : qv_rf qv_TT 98 0 = 99 := by decide +kernel
theorem zt_tab : qv_rf qv_TT 106 0 = 107 := by decide +kernel
theorem zt_r {r : Nat} (h : r < 4) : qv_rf qv_TT (qv_rf qv_TT (qv_rf qv_TT 0 0) 0) (nI r).toNatClampNeg = 5 + 2 * r := by
  rw [zt_bench, zt_regs, zi_cl (by omega), zt_reg h]
theorem zt_w {r : Nat} (h : r < 3) : qv_rf qv_TT (qv_rf qv_TT (qv_rf qv_TT 0 0) 1) (nI r).toNatClampNeg = 13 + 2 * r := by
  rw [zt_bench, zt_wrds, zi_cl (by omega), zt_wrd h]
