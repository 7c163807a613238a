/-! The reference's row, and its shortening. -/
theorem s_mu_set {l : List Nat} {i g : Nat} (hg : g ≠ 6) : s_mu (l.set i g) ≤ s_mu l := by
  by_cases hi : i < l.length
  · unfold s_mu
    rw [List.length_set, List.count_set hi]
    have : (g == 6) = false := by simp [hg]
    rw [this]
    simp only [Bool.false_eq_true, if_false]
    omega
  · rw [List.set_eq_of_length_le (by omega)]
    exact Nat.le_refl _
theorem s_mu_set6 {l : List Nat} {i g : Nat} (hi : i < l.length) (hg : g ≠ 6) (h6 : l.getD i 9 = 6) : s_mu (l.set i g) + 1 ≤ s_mu l := by
  unfold s_mu
  have e : l[i] = 6 := by simpa [List.getD_eq_getElem?_getD, hi] using h6
  have hm : 0 < l.count 6 := List.count_pos_iff.mpr (by rw [← e]; exact List.getElem_mem hi)
  rw [List.length_set, List.count_set hi, e]
  have : (g == 6) = false := by simp [hg]
  rw [this]
  simp only [Bool.false_eq_true, if_false, beq_self_eq_true, if_true]
  omega
theorem s_at_mu {l l' : List Nat} {i : Nat} (hg : ∀ g ∈ l, g < 7) (hi : i < l.length) (h : s_at l i = some l') : s_mu l' + 2 ≤ s_mu l := by
  unfold s_at at h
  split at h
  · rename_i c
    cases h
    exact s_mu_cut (by omega) (s_out_ln hg hi c)
  · split at h
    · rename_i c
      cases h
      exact s_mu_cut (by omega) (s_w8_ln hg c)
    · split at h
      · rename_i c
        cases h
        have hl2 : i + 1 < l.length := by
          apply Classical.byContradiction
          intro q
          have := (zg_get9 hg (i + 1)).2 (by omega)
          omega
        have m1 := s_mu_set6 (g := 2) hi (by omega) c.1
        have m2 := s_mu_set6 (l := l.set i 2) (i := i + 1) (g := 4) (by rw [List.length_set]; omega) (by omega) (by
          have : (l.set i 2).getD (i + 1) 9 = l.getD (i + 1) 9 := by simp [List.getD_eq_getElem?_getD, List.getElem?_set]
          rw [this]
          exact c.2)
        omega
      · split at h
        · rename_i c
          cases h
          have hl2 := s_jn_ln hg hi c
          have n6 : s_jn (l.getD i 9) (l.getD (i + 1) 9) ≠ 6 := by
            unfold s_jn
            split
            · omega
            · split
              · omega
              · split <;> omega
          have m1 := s_mu_set (l := l) (i := i) n6
          have m2 := s_mu_cut (l := l.set i (s_jn (l.getD i 9) (l.getD (i + 1) 9))) (i := i + 1) (m := 1) (by omega) (by rw [List.length_set]; omega)
          omega
        · cases h
def yR (M : qv_Mem) (l : List Nat) : Prop := M.2.2 106 18 = nI l.length ∧ l.length ≤ 590 ∧ ∀ i, i < l.length → M.1 122 i = nI (l.getD i 0)
def yow (M M1 : qv_Mem) : Prop := M1.2.1 = M.2.1 ∧ (∀ a, a ≠ 122 → M1.1 a = M.1 a) ∧ ∀ a k, ¬ (a = 106 ∧ k = 18) → M1.2.2 a k = M.2.2 a k
theorem yow.rf (M : qv_Mem) : yow M M := ⟨rfl, fun _ _ => rfl, fun _ _ _ => rfl⟩
theorem yow.tr {M M1 M2 : qv_Mem} (h : yow M M1) (k : yow M1 M2) : yow M M2 := ⟨k.1.trans h.1, fun a ha => (k.2.1 a ha).trans (h.2.1 a ha), fun a j hj => (k.2.2 a j hj).trans (h.2.2 a j hj)⟩
theorem yow_g (M : qv_Mem) (F : Nat → Int32) : yow M (zgi M 122 F) := ⟨rfl, fun a ha => zgi_ne ha, fun _ _ _ => rfl⟩
theorem yow_S (M : qv_Mem) (v : Int32) : yow M (qv_upS M 106 18 v) := ⟨rfl, fun _ _ => rfl, fun a k h => zs_ne2 h⟩
theorem yow_u (M : qv_Mem) (j : Nat) (v : Int32) : yow M (qv_upI M 122 j v) := by
  rw [zgi_u1]
  exact yow_g M _
theorem yR_mk {M : qv_Mem} {n : Nat} {F : Nat → Int32} {l : List Nat} (hn : l.length = n) (h6 : n ≤ 590) (hF : ∀ i, i < n → F i = nI (l.getD i 0)) : yR (qv_upS (zgi M 122 F) 106 18 (nI n)) l := by
  refine ⟨?_, by omega, fun i hi => ?_⟩
  · rw [zs_at, hn]
  · show (zgi M 122 F).1 122 i = _
    rw [zgi_at]
    exact hF i (by omega)
theorem yR_set {M : qv_Mem} {l : List Nat} (h : yR M l) (i g : Nat) : yR (qv_upI M 122 i (nI g)) (l.set i g) := by
  refine ⟨?_, by rw [List.length_set]; exact h.2.1, fun j hj => ?_⟩
  · rw [List.length_set]
    exact h.1
  · rw [List.length_set] at hj
    rw [zgi_u1, zgi_at]
    unfold zui
    by_cases e : j = i
    · rw [if_pos e, e]
      simp [List.getD_eq_getElem?_getD, show i < l.length by omega]
    · rw [if_neg e, h.2.2 j hj]
      simp [List.getD_eq_getElem?_getD, List.getElem?_set, show ¬ i = j from fun q => e q.symm]
theorem zt_row : qv_rf qv_TT 106 17 = 122 := by decide +kernel
theorem y_isPair {M : qv_Mem} {l : List Nat} (h : yR M l) (hg : ∀ g ∈ l, g < 7) {i : Nat} (hi : i < l.length) {a b : Nat} (ha : a < 7) (hb : b < 7) : f_X10_isPair qv_TT 106 (nI i) (nI a) (nI b) M = some (if l.getD i 9 = a ∧ l.getD (i + 1) 9 = b then 1 else 0) := by
  have h6 := h.2.1
  obtain ⟨a1, a2⟩ := (zg_get9 hg i).1 hi
  unfold f_X10_isPair
  rw [zgS, h.1, nI_1]
  by_cases hl : i + 1 < l.length
  · obtain ⟨b1, b2⟩ := (zg_get9 hg (i + 1)).1 hl
    rw [if_neg (nI_ge hl (by omega)), zt_row, zi_ldI (by omega) (by omega), h.2.2 i hi, ← a1]
    by_cases ea : l.getD i 9 = a
    · rw [if_pos (by rw [ea]), zi_ldI (by omega) (by omega), h.2.2 (i + 1) hl, ← b1]
      by_cases eb : l.getD (i + 1) 9 = b
      · rw [if_pos (by rw [eb]), if_pos ⟨ea, eb⟩]
      · rw [if_neg (fun q => eb ((nI_eq (by omega) (by omega)).mp q)), if_neg (fun q => eb q.2)]
    · rw [if_neg (fun q => ea ((nI_eq (by omega) (by omega)).mp q)), if_neg (fun q => ea q.1)]
  · rw [if_pos (nI_le (by omega) (by omega)), if_neg (fun q => by have := (zg_get9 hg (i + 1)).2 (by omega); omega)]
theorem y_cuts_lp {M : qv_Mem} {l : List Nat} (h : yR M l) {a m n : Nat} (hn : n ≤ m) (ham : a + m ≤ l.length) (k : qv_Mem → Option qv_Mem) : qv_lp2 (b_X10_cuts_25 106 (nI m) qv_TT (nI n) k) qv_N (nI (a + m)) M = k (zgi M 122 (w_cf (M.1 122) (a + n) (m - n) l.length)) := by
  have h6 := h.2.1
  have e0 : M = zgi M 122 (w_cf (M.1 122) (a + n) (m - n) (a + m)) := by
    have : w_cf (M.1 122) (a + n) (m - n) (a + m) = M.1 122 := by
      funext j
      unfold w_cf
      rw [if_neg (by omega)]
    rw [this, zgi_self]
  have key := zfor2 (b := b_X10_cuts_25 106 (nI m) qv_TT (nI n) k) (k := k) (fun i => zgi M 122 (w_cf (M.1 122) (a + n) (m - n) i)) (a + m) l.length ham (fun i r hi1 hi2 => ?_) (fun r => ?_) qv_N (qv_N_gt _ (by omega))
  · exact (congrArg (fun N => qv_lp2 (b_X10_cuts_25 106 (nI m) qv_TT (nI n) k) qv_N (nI (a + m)) N) e0).trans key
  · unfold b_X10_cuts_25
    rw [zgS, zgi_s, h.1, if_neg (nI_ge hi2 (by omega)), zt_row, zi_ldI (by omega) (by omega), zi_sub (by omega) (by omega), nI_add, zi_stI (by omega) (by omega), zgi_up, nI_1, zgi_at]
    congr 2
    funext j
    unfold zui w_cf
    by_cases hj : j = i - m + n
    · rw [if_pos hj, if_neg (by omega), if_pos (by omega), show j + (m - n) = i by omega]
    · rw [if_neg hj]
      by_cases hj2 : a + n ≤ j ∧ j + (m - n) < i
      · rw [if_pos hj2, if_pos (by omega)]
      · rw [if_neg hj2, if_neg (by omega)]
  · unfold b_X10_cuts_25
    rw [zgS, zgi_s, h.1, if_pos (nI_le (Nat.le_refl _) (by omega))]
theorem y_cutR {M : qv_Mem} {l : List Nat} (h : yR M l) {a m : Nat} (ham : a + m ≤ l.length) : yR (qv_upS (zgi M 122 (w_cf (M.1 122) a m l.length)) 106 18 (nI (l.length - m))) (l.take a ++ l.drop (a + m)) := by
  have h6 := h.2.1
  refine yR_mk (by simp only [List.length_append, List.length_take, List.length_drop]; omega) (by omega) (fun i hi => ?_)
  unfold w_cf
  by_cases hi2 : a ≤ i
  · rw [if_pos (by omega), h.2.2 _ (by omega)]
    simp only [List.getD_eq_getElem?_getD, List.getElem?_append, List.length_take, List.getElem?_drop]
    rw [if_neg (by omega), show a + m + (i - min a l.length) = i + m by omega]
  · rw [if_neg (by omega), h.2.2 _ (by omega)]
    simp only [List.getD_eq_getElem?_getD, List.getElem?_append, List.length_take, List.getElem?_take]
    rw [if_pos (by omega), if_pos (by omega)]
theorem zi_as {x n m : Nat} (h : m ≤ x + n) (hx : x + n < 2147483648) : nI x + (nI n - nI m) = nI (x + n - m) := by
  rw [← zi_sub h hx, ← nI_add, Int32.sub_eq_add_neg, Int32.sub_eq_add_neg, Int32.add_assoc]
theorem zln2 : ¬ (0 : Int32) ≤ -2 := by decide
theorem y_cuts0 {M : qv_Mem} {l : List Nat} (h : yR M l) {a m : Nat} (ham : a + m ≤ l.length) : ∃ M1, f_X10_cuts qv_TT 106 (nI a) (nI m) (-2) (-2) M = some M1 ∧ yR M1 (l.take a ++ l.drop (a + m)) ∧ yow M M1 := by
  have h6 := h.2.1
  refine ⟨_, ?_, y_cutR h ham, (yow_g M _).tr (yow_S _ _)⟩
  unfold f_X10_cuts
  rw [zjn, if_neg zln2]
  dsimp only
  rw [zjn, nI_add, zi_0, y_cuts_lp h (Nat.zero_le m) ham, zgS, zpS, zgi_s, h.1, zi_as (by omega) (by omega), zjn, if_pos (nI_le (Nat.le_refl 0) (by omega)), zl1i]
  dsimp only
  rw [if_pos (nI_le (by omega) (by omega))]
  rfl
theorem y_cuts1 {M : qv_Mem} {l : List Nat} (h : yR M l) {a g : Nat} (hg : g < 7) (ham : a + 2 ≤ l.length) : ∃ M1, f_X10_cuts qv_TT 106 (nI a) (nI 2) (nI g) (-2) M = some M1 ∧ yR M1 ((l.take (a + 1) ++ l.drop (a + 1 + 1)).set a g) ∧ yow M M1 := by
  have h6 := h.2.1
  refine ⟨_, ?_, yR_set (y_cutR h (a := a + 1) (m := 1) (by omega)) a g, ((yow_g M _).tr (yow_S _ _)).tr (yow_u _ _ _)⟩
  unfold f_X10_cuts
  rw [zjn, if_pos (nI_pos' (by omega)), if_neg zln2]
  dsimp only
  rw [zjn, nI_add, zl1i, y_cuts_lp h (n := 1) (by omega) ham, zgS, zpS, zgi_s, h.1, zi_as (by omega) (by omega), zjn, zi_0, if_neg (zi_nle (a := 1) (b := 0) (by omega) (by omega)), zt_row, zi_stI (by omega) (by omega)]
  dsimp only
  rw [if_pos (nI_le (Nat.le_refl 1) (by omega)), show l.length + 1 - 2 = l.length - 1 by omega]
theorem y_cuts2 {M : qv_Mem} {l : List Nat} (h : yR M l) {a g k : Nat} (hg : g < 7) (hk : k < 7) (ham : a + 2 ≤ l.length) : ∃ M1, f_X10_cuts qv_TT 106 (nI a) (nI 2) (nI g) (nI k) M = some M1 ∧ yR M1 (((l.take (a + 2) ++ l.drop (a + 2 + 0)).set a g).set (a + 1) k) ∧ yow M M1 := by
  have h6 := h.2.1
  refine ⟨_, ?_, yR_set (yR_set (y_cutR h (a := a + 2) (m := 0) (by omega)) a g) (a + 1) k, (((yow_g M _).tr (yow_S _ _)).tr (yow_u _ _ _)).tr (yow_u _ _ _)⟩
  unfold f_X10_cuts
  rw [zjn, if_pos (nI_pos' (by omega)), if_pos (nI_pos' (by omega))]
  dsimp only
  rw [zjn, nI_add, zl2i, y_cuts_lp h (n := 2) (by omega) ham, zgS, zpS, zgi_s, h.1, zi_as (by omega) (by omega), zjn, zi_0, if_neg (zi_nle (a := 2) (b := 0) (by omega) (by omega)), zt_row, zi_stI (by omega) (by omega), zl1i]
  dsimp only
  rw [if_neg (zi_nle (a := 2) (b := 1) (by omega) (by omega)), nI_add, zi_stI (by omega) (by omega), show l.length + 2 - 2 = l.length - 0 by omega]
