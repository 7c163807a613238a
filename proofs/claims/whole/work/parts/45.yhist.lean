/-! The reference's history: is a word another, the oldest change goes. -/
theorem y_oth1 {M : qv_Mem} {l : List Nat} (h : yR M l) {w i f : Nat} (k : Int32 → Option Int32) (hi : i ≤ l.length) : qv_lp2 (b_X10_isOther_21 106 (nI w) M qv_TT k) (f + 1) 1 (nI i) = k 1 := by
  have h6 := h.2.1
  rw [zN2]
  unfold b_X10_isOther_21
  rw [zgS, h.1]
  by_cases e : i = l.length
  · rw [if_pos (nI_le (by omega) (by omega))]
  · rw [if_neg (nI_ge (show i < l.length by omega) (by omega)), if_neg zl1n0]
theorem y_oth_lp {M : qv_Mem} {W : Nat → List Nat} {l : List Nat} (hW : yW M W) (hk : zWk W) (h : yR M l) (hl : ∀ g ∈ l, g < 7) {w : Nat} (hw : w < 3) (hlen : (W w).length = l.length) (k : Int32 → Option Int32) : ∀ (n i f : Nat), i + n = l.length → n + 1 < f → qv_lp2 (b_X10_isOther_21 106 (nI w) M qv_TT k) f 0 (nI i) = k (if w_sb (W w) l i n = true then 0 else 1) := by
  obtain ⟨a1, a2, a3⟩ := hW w hw
  intro n
  induction n with
  | zero =>
    intro i f hi hf
    obtain ⟨f, rfl⟩ : ∃ g, f = g + 1 := ⟨f - 1, by omega⟩
    rw [zN2]
    unfold b_X10_isOther_21
    rw [zgS, h.1, if_pos (nI_le (by omega) (by omega))]
    rfl
  | succ n ih =>
    intro i f hi hf
    obtain ⟨f, rfl⟩ : ∃ g, f = g + 2 := ⟨f - 2, by omega⟩
    rw [zN2]
    have o1 := y_oth1 h (w := w) (i := i + 1) (f := f) k (by omega)
    have ih1 := ih (i + 1) (f + 1) (by omega) (by omega)
    generalize qv_lp2 (b_X10_isOther_21 106 (nI w) M qv_TT k) (f + 1) = rr at ih1 o1 ⊢
    unfold b_X10_isOther_21
    have g1 := zg_get (hk w hw).2 i
    have g2 := zg_get hl i
    rw [zgS, h.1, if_neg (nI_ge (show i < l.length by omega) (by omega)), if_pos rfl, zt_word, zt_row, zl60, zi_mul, nI_add, zi_ldI (by omega) (by omega), zi_ldI (by omega) (by omega), a3 i (by omega), h.2.2 i (by omega), zjn, nI_1]
    unfold w_sb
    by_cases e : (W w).getD i 0 = l.getD i 0
    · rw [if_pos (by rw [e])]
      dsimp only
      rw [ih1, decide_eq_true e, Bool.true_and]
    · rw [if_neg (fun q => e ((nI_eq (by omega) (by omega)).mp q))]
      dsimp only
      rw [o1, decide_eq_false e]
      rfl
theorem y_isOther {M : qv_Mem} {W : Nat → List Nat} {l : List Nat} (hW : yW M W) (hk : zWk W) (h : yR M l) (hl : ∀ g ∈ l, g < 7) {w : Nat} (hw : w < 3) : f_X10_isOther qv_TT 106 (nI w) M = some (if W w = l then 0 else 1) := by
  have h6 := h.2.1
  obtain ⟨a1, a2, a3⟩ := hW w hw
  unfold f_X10_isOther
  rw [zt_size, zi_ldI hw (by omega), a1, zgS, h.1, zjn]
  by_cases e : (W w).length = l.length
  · rw [if_pos (by rw [e])]
    dsimp only
    rw [zjn]
    have key := y_oth_lp hW hk h hl hw e (fun v5 => qv_gd (qv_01 v5) (some v5)) l.length 0 qv_N (by omega) (qv_N_gt _ (by omega))
    rw [← zi_0] at key
    rw [key]
    by_cases q : W w = l
    · rw [if_pos q, if_pos ((w_sb_iff _ _ _ _).mpr (fun j _ _ => by rw [q]))]
      rfl
    · rw [if_neg q, if_neg (fun z => q (zl_ext e (fun j hj => (w_sb_iff _ _ _ _).mp z j (Nat.zero_le _) (by omega))))]
      rfl
  · rw [if_neg (fun q => e ((nI_eq (by omega) (by omega)).mp q))]
    dsimp only
    rw [zjn]
    obtain ⟨N, hN⟩ : ∃ g, qv_N = g + 1 := ⟨qv_N - 1, by have := qv_N_gt 5 (by omega); omega⟩
    rw [hN, zi_0, if_neg (fun q => e (by rw [q]))]
    have o1 := y_oth1 h (w := w) (i := 0) (f := N) (fun v5 => qv_gd (qv_01 v5) (some v5)) (by omega)
    rw [o1]
    rfl
/-- three rows of numbers of the reference: whose change, its size, its gates -/
def m3 (M : qv_Mem) (A B C : Nat → Int32) : qv_Mem := (fun a j => if a = 125 then A j else if a = 124 then B j else if a = 123 then C j else M.1 a j, M.2.1, M.2.2)
theorem m3_A (M : qv_Mem) (A B C : Nat → Int32) (j : Nat) : (m3 M A B C).1 125 j = A j := rfl
theorem m3_B (M : qv_Mem) (A B C : Nat → Int32) (j : Nat) : (m3 M A B C).1 124 j = B j := rfl
theorem m3_C (M : qv_Mem) (A B C : Nat → Int32) (j : Nat) : (m3 M A B C).1 123 j = C j := rfl
theorem m3_ne {M : qv_Mem} {A B C : Nat → Int32} {a : Nat} (h : a < 123 ∨ 125 < a) : (m3 M A B C).1 a = M.1 a := by
  funext j
  show (if a = 125 then A j else if a = 124 then B j else if a = 123 then C j else M.1 a j) = _
  rw [if_neg (by omega), if_neg (by omega), if_neg (by omega)]
theorem m3_self (M : qv_Mem) : m3 M (M.1 125) (M.1 124) (M.1 123) = M := by
  unfold m3
  apply Prod.ext
  · funext a j
    show (if a = 125 then M.1 125 j else if a = 124 then M.1 124 j else if a = 123 then M.1 123 j else M.1 a j) = _
    by_cases h1 : a = 125
    · rw [if_pos h1, h1]
    · rw [if_neg h1]
      by_cases h2 : a = 124
      · rw [if_pos h2, h2]
      · rw [if_neg h2]
        by_cases h3 : a = 123
        · rw [if_pos h3, h3]
        · rw [if_neg h3]
  · rfl
theorem m3_uA (M : qv_Mem) (A B C : Nat → Int32) (j : Nat) (v : Int32) : qv_upI (m3 M A B C) 125 j v = m3 M (zui A j v) B C := by
  unfold qv_upI m3 zui
  simp only [Prod.mk.injEq, and_true]
  funext a b
  by_cases h1 : a = 125
  · by_cases h2 : b = j
    · simp [h1, h2]
    · simp [h1, h2]
  · simp [h1]
theorem m3_uB (M : qv_Mem) (A B C : Nat → Int32) (j : Nat) (v : Int32) : qv_upI (m3 M A B C) 124 j v = m3 M A (zui B j v) C := by
  unfold qv_upI m3 zui
  simp only [Prod.mk.injEq, and_true]
  funext a b
  by_cases h1 : a = 124
  · by_cases h2 : b = j
    · simp [h1, h2]
    · simp [h1, h2]
  · simp [h1]
theorem m3_uC (M : qv_Mem) (A B C : Nat → Int32) (j : Nat) (v : Int32) : qv_upI (m3 M A B C) 123 j v = m3 M A B (zui C j v) := by
  unfold qv_upI m3 zui
  simp only [Prod.mk.injEq, and_true]
  funext a b
  by_cases h1 : a = 123
  · by_cases h2 : b = j
    · simp [h1, h2]
    · simp [h1, h2]
  · simp [h1]
theorem zt_was : qv_rf qv_TT 106 19 = 123 := by decide +kernel
theorem zt_wasS : qv_rf qv_TT 106 20 = 124 := by decide +kernel
theorem zt_wasO : qv_rf qv_TT 106 21 = 125 := by decide +kernel
def h_c1 (C : Nat → Int32) (c i : Nat) : Nat → Int32 := fun j => if 60 * (c - 1) ≤ j ∧ j < 60 * (c - 1) + i then C (j + 60) else C j
theorem y_sh60 {M : qv_Mem} {A B C : Nat → Int32} {c : Nat} (hc : 1 ≤ c) (hc8 : c < 8) (k : qv_Mem → Option (Int32 × qv_Mem)) : qv_lp2 (b_X10_becomes_60 106 qv_TT (nI c) k) qv_N (nI 0) (m3 M A B C) = k (m3 M A B (h_c1 C c 60)) := by
  have e0 : h_c1 C c 0 = C := by
    funext j
    unfold h_c1
    rw [if_neg (by omega)]
  have key := zfor2 (b := b_X10_becomes_60 106 qv_TT (nI c) k) (k := k) (fun i => m3 M A B (h_c1 C c i)) 0 60 (by omega) (fun i r hi1 hi2 => ?_) (fun r => ?_) qv_N (qv_N_gt _ (by omega))
  · rw [e0] at key
    exact key
  · unfold b_X10_becomes_60
    rw [zl60, if_neg (zi_nle (a := 60) (b := i) (by omega) (by omega)), zt_was, zi_mul, nI_add, zi_ldI (by omega) (by omega), zl1i, zi_sub hc (by omega), zi_mul, nI_add, zi_stI (by omega) (by omega), m3_uC, m3_C, nI_add]
    congr 2
    funext j
    unfold zui h_c1
    by_cases hj : j = 60 * (c - 1) + i
    · rw [if_pos hj, if_neg (by omega), if_pos (by omega), show j + 60 = 60 * c + i by omega]
    · rw [if_neg hj]
      by_cases hj2 : 60 * (c - 1) ≤ j ∧ j < 60 * (c - 1) + i
      · rw [if_pos hj2, if_pos (by omega)]
      · rw [if_neg hj2, if_neg (by omega)]
  · unfold b_X10_becomes_60
    rw [zl60, if_pos (nI_le (Nat.le_refl _) (by omega))]
def h_s (A : Nat → Int32) (c : Nat) : Nat → Int32 := fun j => if j + 1 < c then A (j + 1) else A j
def h_t (C : Nat → Int32) (c : Nat) : Nat → Int32 := fun j => if j < 60 * (c - 1) then C (j + 60) else C j
theorem y_shift {M : qv_Mem} {A B C : Nat → Int32} (k : qv_Mem → Option (Int32 × qv_Mem)) : qv_lp2 (b_X10_becomes_24 106 qv_TT k) qv_N (nI 1) (m3 M A B C) = k (m3 M (h_s A 8) (h_s B 8) (h_t C 8)) := by
  have e1 : ∀ A : Nat → Int32, h_s A 1 = A := fun A => by
    funext j
    unfold h_s
    rw [if_neg (by omega)]
  have e2 : h_t C 1 = C := by
    funext j
    unfold h_t
    rw [if_neg (by omega)]
  have key := zfor2 (b := b_X10_becomes_24 106 qv_TT k) (k := k) (fun c => m3 M (h_s A c) (h_s B c) (h_t C c)) 1 8 (by omega) (fun c r hc hc8 => ?_) (fun r => ?_) qv_N (qv_N_gt _ (by omega))
  · rw [e1, e1, e2] at key
    exact key
  · unfold b_X10_becomes_24
    rw [zl8i, if_neg (zi_nle (a := 8) (b := c) (by omega) (by omega)), zt_wasO, zt_wasS, zi_ldI (by omega) (by omega), zl1i, zi_sub hc (by omega), zi_stI (by omega) (by omega), m3_A, m3_uA, zi_ldI (by omega) (by omega), zi_stI (by omega) (by omega), m3_B, m3_uB, zjn, zi_0, y_sh60 hc hc8, nI_add]
    have q : ∀ A : Nat → Int32, zui (h_s A c) (c - 1) (h_s A c c) = h_s A (c + 1) := fun A => by
      funext j
      unfold zui h_s
      by_cases hj : j = c - 1
      · rw [if_pos hj, if_neg (by omega), if_pos (by omega), show j + 1 = c by omega]
      · rw [if_neg hj]
        by_cases hj2 : j + 1 < c
        · rw [if_pos hj2, if_pos (by omega)]
        · rw [if_neg hj2, if_neg (by omega)]
    have q2 : h_c1 (h_t C c) c 60 = h_t C (c + 1) := by
      funext j
      unfold h_c1 h_t
      by_cases hj : 60 * (c - 1) ≤ j ∧ j < 60 * (c - 1) + 60
      · rw [if_pos hj, if_neg (by omega), if_pos (by omega)]
      · rw [if_neg hj]
        by_cases hj2 : j < 60 * (c - 1)
        · rw [if_pos hj2, if_pos (by omega)]
        · rw [if_neg hj2, if_neg (by omega)]
    rw [q, q, q2]
  · unfold b_X10_becomes_24
    rw [zl8i, if_pos (nI_le (Nat.le_refl _) (by omega))]
