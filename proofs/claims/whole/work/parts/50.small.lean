/-! price, feed, wipe, word, on both sides. -/
def zCP (M : qv_Mem) (P : Nat → Nat) : Prop := ∀ g, g < 7 → M.1 4 g = nI (P g)
def yP (M : qv_Mem) (P : Nat → Nat) : Prop := ∀ g, g < 7 → M.1 110 g = nI (P g)
def zPk (P : Nat → Nat) : Prop := ∀ g, g < 7 → P g ≤ 9
def a_price (P : Nat → Nat) (p q : Int32) : Int32 × (Nat → Nat) := if zr p 7 ∨ zr q 10 then (-1, P) else (nI (P p.toNatClampNeg), fun i => if i = p.toNatClampNeg then q.toNatClampNeg else P i)
theorem a_price_k {P : Nat → Nat} (hP : zPk P) (p q : Int32) : zPk (a_price P p q).2 := by
  unfold a_price
  rcases zr_in p 7 with ⟨g, hg, g2, rfl⟩ | h
  · rcases zr_in q 10 with ⟨v, hv, v2, rfl⟩ | h'
    · rw [if_neg (fun q => q.elim (zr_n hg g2) (zr_n hv v2)), zi_cl g2, zi_cl v2]
      intro i hi
      show (if i = g then v else P i) ≤ 9
      split
      · omega
      · exact hP i hi
    · rw [if_pos (Or.inr h')]
      exact hP
  · rw [if_pos (Or.inl h)]
    exact hP
theorem zt_price : qv_rf qv_TT 1 2 = 4 := by decide +kernel
theorem zt_yprice : qv_rf qv_TT 106 3 = 110 := by decide +kernel
theorem zP_up {M : qv_Mem} {c g v : Nat} {P : Nat → Nat} (h : ∀ g, g < 7 → M.1 c g = nI (P g)) : ∀ i, i < 7 → (qv_upI M c g (nI v)).1 c i = nI (if i = g then v else P i) := by
  intro i hi
  rw [zgi_u1, zgi_at]
  unfold zui
  split
  · rfl
  · exact h i hi
theorem zfr_u (M : qv_Mem) (c j : Nat) (v : Int32) : zfr (fun a => a = c) M (qv_upI M c j v) := by
  rw [zgi_u1]
  exact ⟨fun a ha => zgi_ne ha, fun _ _ => rfl, fun _ _ => rfl⟩
theorem x_price {M : qv_Mem} {P : Nat → Nat} (hP : zCP M P) (p q : Int32) : ∃ M1, f_X9_price qv_TT 0 p q M = some ((a_price P p q).1, M1) ∧ zCP M1 (a_price P p q).2 ∧ zfr (fun a => a = 4) M M1 := by
  unfold f_X9_price a_price
  rcases zr_in p 7 with ⟨g, hg, g2, rfl⟩ | h
  · rcases zr_in q 10 with ⟨v, hv, v2, rfl⟩ | h'
    · rw [x_isGate hg, zbo, if_neg zl1n0, if_neg (nI_pos v2), zl9i, if_pos (nI_le (by omega) (by omega)), zt_bench, zt_price, zi_ldI hg (by omega), zi_stI hg (by omega), if_neg (fun q => q.elim (zr_n hg g2) (zr_n hv v2)), zi_cl g2, zi_cl v2, hP g hg]
      exact ⟨_, rfl, zP_up hP, zfr_u _ _ _ _⟩
    · rw [x_isGate hg, zbo, if_neg zl1n0, if_pos (Or.inr h')]
      rcases h' with h' | h'
      · rw [if_pos (show q < 0 from Int32.lt_iff_toInt_lt.mpr (by rw [zr_z]; exact h'))]
        exact ⟨M, rfl, hP, zfr.rf _ _⟩
      · rw [if_neg (show ¬ q < 0 from fun e => by have := Int32.lt_iff_toInt_lt.mp e; rw [zr_z] at this; omega), zl9i, if_neg (fun e => by have := Int32.le_iff_toInt_le.mp e; rw [nI_toInt (by omega)] at this; omega)]
        exact ⟨M, rfl, hP, zfr.rf _ _⟩
  · rw [x_isGate0 h, zbo, if_pos rfl, if_pos (Or.inl h)]
    exact ⟨M, rfl, hP, zfr.rf _ _⟩
theorem y_price {M : qv_Mem} {P : Nat → Nat} (hP : yP M P) (p q : Int32) : ∃ M1, f_X10_price qv_TT 106 p q M = some ((a_price P p q).1, M1) ∧ yP M1 (a_price P p q).2 ∧ zfr (fun a => a = 110) M M1 := by
  unfold f_X10_price a_price
  rcases zr_in p 7 with ⟨g, hg, g2, rfl⟩ | h
  · rcases zr_in q 10 with ⟨v, hv, v2, rfl⟩ | h'
    · rw [y_isGate hg, zbo, if_neg zl1n0, y_in hv (by omega) (by decide), zbo, if_neg zl1n0, zt_yprice, zi_ldI hg (by omega), zi_stI hg (by omega), if_neg (fun q => q.elim (zr_n hg g2) (zr_n hv v2)), zi_cl g2, zi_cl v2, hP g hg]
      exact ⟨_, rfl, zP_up hP, zfr_u _ _ _ _⟩
    · rw [y_isGate hg, zbo, if_neg zl1n0, y_in0 h' (by decide), zbo, if_pos rfl, if_pos (Or.inr h')]
      exact ⟨M, rfl, hP, zfr.rf _ _⟩
  · rw [y_isGate0 h, zbo, if_pos rfl, if_pos (Or.inl h)]
    exact ⟨M, rfl, hP, zfr.rf _ _⟩
/-- the tape, on both sides -/
def zTp (M : qv_Mem) (B : List Nat) : Prop := M.2.2 56 1 = nI B.length ∧ B.length ≤ 80 ∧ ∀ i, i < B.length → M.1 57 i = nI (B.getD i 0)
def yTp (M : qv_Mem) (B : List Nat) : Prop := M.2.2 106 24 = nI B.length ∧ B.length ≤ 80 ∧ ∀ i, i < B.length → M.1 126 i = nI (B.getD i 0)
theorem zt_tape : qv_rf qv_TT 0 4 = 56 := by decide +kernel
theorem zt_tpl : qv_rf qv_TT 56 0 = 57 := by decide +kernel
theorem zt_ytp : qv_rf qv_TT 106 23 = 126 := by decide +kernel
def a_wipe (B : List Nat) : Int32 := nI B.length
theorem x_wipe {M : qv_Mem} {B : List Nat} (h : zTp M B) : ∃ M1, f_X9_wipe qv_TT 0 M = some (nI B.length, M1) ∧ zTp M1 [] ∧ zfr (fun a => a = 56 ∨ a = 57) M M1 := by
  unfold f_X9_wipe
  rw [zt_tape, zgS, zpS, h.1]
  refine ⟨_, rfl, ⟨by rw [zs_at]; rfl, Nat.zero_le _, fun i hi => by cases hi⟩, ⟨fun _ _ => rfl, fun _ _ => rfl, fun a ha => zs_ne (by omega)⟩⟩
theorem y_wipe {M : qv_Mem} {B : List Nat} (h : yTp M B) : ∃ M1, f_X10_wipe qv_TT 106 M = some (nI B.length, M1) ∧ yTp M1 [] ∧ M1.1 = M.1 ∧ M1.2.1 = M.2.1 ∧ ∀ a k, ¬ (a = 106 ∧ k = 24) → M1.2.2 a k = M.2.2 a k := by
  unfold f_X10_wipe
  rw [zgS, zpS, h.1]
  exact ⟨_, rfl, ⟨by rw [zs_at]; rfl, Nat.zero_le _, fun i hi => by cases hi⟩, rfl, rfl, fun a k hk => zs_ne2 hk⟩
def a_feed (B : List Nat) (p : Int32) : Int32 × List Nat := if p.toInt < 32 ∨ 126 < p.toInt then (-1, B) else if B.length = 80 then (-3, B) else (nI (B.length + 1), B ++ [p.toNatClampNeg])
theorem b_snoc {F : Nat → Int32} {B : List Nat} {v : Nat} (h : ∀ i, i < B.length → F i = nI (B.getD i 0)) : ∀ i, i < (B ++ [v]).length → zui F B.length (nI v) i = nI ((B ++ [v]).getD i 0) := by
  intro i hi
  rw [List.length_append, List.length_singleton] at hi
  unfold zui
  by_cases hi2 : i = B.length
  · rw [if_pos hi2, hi2]
    simp [List.getD_eq_getElem?_getD]
  · rw [if_neg hi2, h i (by omega)]
    simp [List.getD_eq_getElem?_getD, List.getElem?_append, show i < B.length by omega]
theorem zl32 : (32 : Int32) = nI 32 := id rfl
theorem zl126 : (126 : Int32) = nI 126 := id rfl
theorem zl80 : (80 : Int32) = nI 80 := id rfl
theorem x_feed {M : qv_Mem} {B : List Nat} (h : zTp M B) (p : Int32) : ∃ M1, f_X9_feed qv_TT 0 p M = some ((a_feed B p).1, M1) ∧ zTp M1 (a_feed B p).2 ∧ zfr (fun a => a = 56 ∨ a = 57) M M1 := by
  have h80 := h.2.1
  unfold f_X9_feed a_feed
  by_cases c1 : p.toInt < 32
  · rw [zl32, if_pos (show p < nI 32 from Int32.lt_iff_toInt_lt.mpr (by rw [nI_toInt (by omega)]; exact c1)), if_pos (Or.inl c1)]
    exact ⟨M, rfl, h, zfr.rf _ _⟩
  · rw [zl32, if_neg (show ¬ p < nI 32 from fun e => by have := Int32.lt_iff_toInt_lt.mp e; rw [nI_toInt (by omega)] at this; omega), zl126]
    by_cases c2 : 126 < p.toInt
    · rw [if_neg (fun e => by have := Int32.le_iff_toInt_le.mp e; rw [nI_toInt (by omega)] at this; omega), if_pos (Or.inr c2)]
      exact ⟨M, rfl, h, zfr.rf _ _⟩
    · rw [if_pos (show p ≤ nI 126 from Int32.le_iff_toInt_le.mpr (by rw [nI_toInt (by omega)]; omega)), if_neg (fun q => q.elim c1 c2), zt_tape]
      obtain ⟨v, -, v2, rfl⟩ | hz := zr_in p 127
      · unfold f_X8_add
        rw [zgS, h.1, zl80]
        by_cases hl : B.length = 80
        · rw [if_neg (nI_nlt (by omega) (by omega)), zbp, if_pos rfl, if_pos hl]
          exact ⟨M, rfl, h, zfr.rf _ _⟩
        · rw [if_pos (nI_lt (by omega) (by omega)), zgS, h.1, zt_tpl, zi_stI (by omega) (by omega), zgS, zpS]
          have e : (qv_upI M 57 B.length (nI v)).2.2 56 1 = nI B.length := h.1
          rw [e, nI_1, zbp, if_neg zl1n0, zgS, zs_at, if_neg hl, zi_cl v2, zgi_u1]
          refine ⟨_, rfl, ⟨?_, ?_, fun i hi => ?_⟩, ⟨fun a ha => zgi_ne (by omega), fun _ _ => rfl, fun a ha => zs_ne (by omega)⟩⟩
          · rw [zs_at]
            show _ = nI (B ++ [v]).length
            rw [List.length_append, List.length_singleton]
          · show (B ++ [v]).length ≤ 80
            rw [List.length_append, List.length_singleton]; omega
          · show (zgi M 57 (zui (M.1 57) B.length (nI v))).1 57 i = _
            rw [zgi_at]
            exact b_snoc h.2.2 i hi
      · exfalso
        rcases hz with hz | hz <;> omega
