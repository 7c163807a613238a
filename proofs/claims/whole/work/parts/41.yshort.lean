/-! The reference's rules. -/
theorem s_out_iff (A B : Nat) : s_out A B = true ↔ (A = 0 ∧ B = 0) ∨ (A = 3 ∧ B = 3) ∨ (A = 4 ∧ B = 4) ∨ (A = 1 ∧ B = 6) ∨ (A = 6 ∧ B = 1) := by
  unfold s_out
  simp only [Bool.or_eq_true, Bool.and_eq_true, beq_iff_eq]
  omega
theorem s_at_out {l : List Nat} {i : Nat} (h : s_out (l.getD i 9) (l.getD (i + 1) 9) = true) : s_at l i = some (l.take i ++ l.drop (i + 2)) := by
  unfold s_at
  rw [if_pos h]
theorem s_at_w8 {l : List Nat} {i : Nat} (h : ¬ s_out (l.getD i 9) (l.getD (i + 1) 9) = true) (h2 : s_w8 l i 8 = true) : s_at l i = some (l.take i ++ l.drop (i + 8)) := by
  unfold s_at
  rw [if_neg h, if_pos h2]
theorem s_at_uu {l : List Nat} {i : Nat} (h : ¬ s_out (l.getD i 9) (l.getD (i + 1) 9) = true) (h2 : ¬ s_w8 l i 8 = true) (h3 : l.getD i 9 = 6 ∧ l.getD (i + 1) 9 = 6) : s_at l i = some ((l.set i 2).set (i + 1) 4) := by
  unfold s_at
  rw [if_neg h, if_neg h2, if_pos h3]
theorem s_at_jn {l : List Nat} {i g : Nat} (h : ¬ s_out (l.getD i 9) (l.getD (i + 1) 9) = true) (h2 : ¬ s_w8 l i 8 = true) (h3 : ¬ (l.getD i 9 = 6 ∧ l.getD (i + 1) 9 = 6)) (h4 : s_jn (l.getD i 9) (l.getD (i + 1) 9) = g) (hg : g < 7) : s_at l i = some ((l.take (i + 1) ++ l.drop (i + 1 + 1)).set i g) := by
  unfold s_at
  rw [if_neg h, if_neg h2, if_neg h3, h4, if_pos hg]
  congr 1
  by_cases hl : i < l.length
  · rw [List.set_append_left _ _ (by rw [List.length_take]; omega), List.take_set, List.drop_set_of_lt (by omega)]
  · rw [List.set_eq_of_length_le (by omega), List.set_eq_of_length_le (by simp only [List.length_append, List.length_take, List.length_drop]; omega)]
theorem s_at_no {l : List Nat} {i : Nat} (h : ¬ s_out (l.getD i 9) (l.getD (i + 1) 9) = true) (h2 : ¬ s_w8 l i 8 = true) (h3 : ¬ (l.getD i 9 = 6 ∧ l.getD (i + 1) 9 = 6)) (h4 : ¬ s_jn (l.getD i 9) (l.getD (i + 1) 9) < 7) : s_at l i = none := by
  unfold s_at
  rw [if_neg h, if_neg h2, if_neg h3, if_neg h4]
theorem y_close {f : Option (Int32 × qv_Mem)} {o : Option (List Nat)} {L : List Nat} {M : qv_Mem} (hs : o = some L) (hM : ∃ M1, f = some (1, M1) ∧ yR M1 L ∧ yow M M1) : (o = none → f = some (0, M)) ∧ (∀ l', o = some l' → ∃ M1, f = some (1, M1) ∧ yR M1 l' ∧ yow M M1) := by
  rw [hs]
  refine ⟨fun q => (by cases q), fun l' q => ?_⟩
  cases q
  exact hM
theorem y_close0 {f : Option (Int32 × qv_Mem)} {o : Option (List Nat)} {M : qv_Mem} (hs : o = none) (hM : f = some (0, M)) : (o = none → f = some (0, M)) ∧ (∀ l', o = some l' → ∃ M1, f = some (1, M1) ∧ yR M1 l' ∧ yow M M1) := by
  rw [hs]
  exact ⟨fun _ => hM, fun l' q => (by cases q)⟩
theorem y_bc {o : Option qv_Mem} {L : List Nat} {M : qv_Mem} (h : ∃ M1, o = some M1 ∧ yR M1 L ∧ yow M M1) : ∃ M1, qv_bo o (fun M3 => some ((1 : Int32), M3)) = some (1, M1) ∧ yR M1 L ∧ yow M M1 := by
  obtain ⟨M1, e, a, b⟩ := h
  rw [e]
  exact ⟨M1, rfl, a, b⟩
theorem y_w8 {M : qv_Mem} {l : List Nat} (h : yR M l) (hg : ∀ g ∈ l, g < 7) {i : Nat} (hi : i < l.length) (k : Int32 → Option (Int32 × qv_Mem)) : ∀ (n j f : Nat), j + n = 8 → n < f → ∃ v, v ≤ 8 ∧ qv_lp1 (b_X10_isRuled_66 106 (nI i) M qv_TT k) f (nI j) = k (nI v) ∧ (v = 8 ↔ s_w8 l i n = true) := by
  have h6 := h.2.1
  intro n
  induction n with
  | zero =>
    intro j f hj hf
    obtain ⟨f, rfl⟩ : ∃ g, f = g + 1 := ⟨f - 1, by omega⟩
    rw [zN1]
    unfold b_X10_isRuled_66
    rw [zl8i, if_pos (nI_le (by omega) (by omega))]
    exact ⟨j, by omega, rfl, fun _ => rfl, fun _ => by omega⟩
  | succ n ih =>
    intro j f hj hf
    obtain ⟨f, rfl⟩ : ∃ g, f = g + 1 := ⟨f - 1, by omega⟩
    rw [zN1]
    have ih1 := ih (j + 1) f (by omega) (by omega)
    generalize qv_lp1 (b_X10_isRuled_66 106 (nI i) M qv_TT k) f = rr at ih1 ⊢
    unfold b_X10_isRuled_66
    have ej : 8 - (n + 1) = j := by omega
    unfold s_w8
    rw [zl8i, if_neg (zi_nle (a := 8) (b := j) (by omega) (by omega)), zgS, h.1, nI_add, ej]
    by_cases hl : i + j < l.length
    · obtain ⟨b1, b2⟩ := (zg_get9 hg (i + j)).1 hl
      rw [if_neg (nI_ge hl (by omega)), zt_row, zi_ldI (by omega) (by omega), h.2.2 _ hl, ← b1, zl5i]
      by_cases e : l.getD (i + j) 9 = 5
      · rw [if_pos (by rw [e]), nI_1, e]
        simpa using ih1
      · rw [if_neg (fun q => e ((nI_eq (by omega) (by omega)).mp q))]
        refine ⟨j, by omega, rfl, fun q => by omega, fun q => ?_⟩
        rw [decide_eq_false e] at q
        cases q
    · rw [if_pos (nI_le (by omega) (by omega))]
      refine ⟨j, by omega, rfl, fun q => by omega, fun q => ?_⟩
      rw [(zg_get9 hg (i + j)).2 (by omega)] at q
      cases q
theorem zl6i : (6 : Int32) = nI 6 := id rfl
theorem y_isRuled {M : qv_Mem} {l : List Nat} (h : yR M l) (hg : ∀ g ∈ l, g < 7) {i : Nat} (hi : i < l.length) : (s_at l i = none → f_X10_isRuled qv_TT 106 (nI i) M = some (0, M)) ∧ (∀ l', s_at l i = some l' → ∃ M1, f_X10_isRuled qv_TT 106 (nI i) M = some (1, M1) ∧ yR M1 l' ∧ yow M M1) := by
  have h6 := h.2.1
  have p00 := y_isPair h hg hi (a := 0) (b := 0) (by omega) (by omega)
  rw [← zi_0] at p00
  have p33 := y_isPair h hg hi (a := 3) (b := 3) (by omega) (by omega)
  rw [← zl3] at p33
  have p44 := y_isPair h hg hi (a := 4) (b := 4) (by omega) (by omega)
  rw [← zl4] at p44
  have p16 := y_isPair h hg hi (a := 1) (b := 6) (by omega) (by omega)
  rw [← zl1i, ← zl6i] at p16
  have p61 := y_isPair h hg hi (a := 6) (b := 1) (by omega) (by omega)
  rw [← zl1i, ← zl6i] at p61
  have p11 := y_isPair h hg hi (a := 1) (b := 1) (by omega) (by omega)
  rw [← zl1i] at p11
  have p66 := y_isPair h hg hi (a := 6) (b := 6) (by omega) (by omega)
  rw [← zl6i] at p66
  have p22 := y_isPair h hg hi (a := 2) (b := 2) (by omega) (by omega)
  rw [← zl2i] at p22
  have p26 := y_isPair h hg hi (a := 2) (b := 6) (by omega) (by omega)
  rw [← zl2i, ← zl6i] at p26
  have p62 := y_isPair h hg hi (a := 6) (b := 2) (by omega) (by omega)
  rw [← zl2i, ← zl6i] at p62
  have cut2 : s_out (l.getD i 9) (l.getD (i + 1) 9) = true → ∃ M1, f_X10_cuts qv_TT 106 (nI i) 2 (-2) (-2) M = some M1 ∧ yR M1 (l.take i ++ l.drop (i + 2)) ∧ yow M M1 := fun c => by
    rw [zl2i]
    exact y_cuts0 h (s_out_ln hg hi c)
  unfold f_X10_isRuled
  rw [p00, zbo, zjn]
  by_cases c1 : l.getD i 9 = 0 ∧ l.getD (i + 1) 9 = 0
  · have so : s_out (l.getD i 9) (l.getD (i + 1) 9) = true := (s_out_iff _ _).mpr (by omega)
    rw [if_pos c1, if_neg zl1n0]
    exact y_close (s_at_out so) (y_bc (cut2 so))
  rw [if_neg c1, if_pos rfl, p33, zbo]
  by_cases c2 : l.getD i 9 = 3 ∧ l.getD (i + 1) 9 = 3
  · have so : s_out (l.getD i 9) (l.getD (i + 1) 9) = true := (s_out_iff _ _).mpr (by omega)
    rw [if_pos c2, if_neg zl1n0]
    exact y_close (s_at_out so) (y_bc (cut2 so))
  rw [if_neg c2, if_pos rfl, p44, zbo]
  by_cases c3 : l.getD i 9 = 4 ∧ l.getD (i + 1) 9 = 4
  · have so : s_out (l.getD i 9) (l.getD (i + 1) 9) = true := (s_out_iff _ _).mpr (by omega)
    rw [if_pos c3, if_neg zl1n0]
    exact y_close (s_at_out so) (y_bc (cut2 so))
  rw [if_neg c3, if_pos rfl, p16, zbo]
  by_cases c4 : l.getD i 9 = 1 ∧ l.getD (i + 1) 9 = 6
  · have so : s_out (l.getD i 9) (l.getD (i + 1) 9) = true := (s_out_iff _ _).mpr (by omega)
    rw [if_pos c4, if_neg zl1n0]
    exact y_close (s_at_out so) (y_bc (cut2 so))
  rw [if_neg c4, if_pos rfl, p61, zbo]
  by_cases c5 : l.getD i 9 = 6 ∧ l.getD (i + 1) 9 = 1
  · have so : s_out (l.getD i 9) (l.getD (i + 1) 9) = true := (s_out_iff _ _).mpr (by omega)
    rw [if_pos c5, if_neg zl1n0]
    exact y_close (s_at_out so) (y_bc (cut2 so))
  rw [if_neg c5, if_pos rfl, zjn]
  have so : ¬ s_out (l.getD i 9) (l.getD (i + 1) 9) = true := fun q => by
    have := (s_out_iff _ _).mp q
    omega
  obtain ⟨v, hv, ev, wv⟩ := y_w8 h hg hi (fun (v8 : Int32) =>
 (if v8 = 8 then
 qv_bo (f_X10_cuts qv_TT 106 (nI i) 8 (-2) (-2) M) (fun M20 =>
 some ((1 : Int32), M20))
 else
 qv_bo (f_X10_isPair qv_TT 106 (nI i) 1 1 M) (fun v10 =>
 (if v10 = 0 then
 qv_bo (f_X10_isPair qv_TT 106 (nI i) 6 6 M) (fun v11 =>
 (if v11 = 0 then
 qv_bo (f_X10_isPair qv_TT 106 (nI i) 2 2 M) (fun v12 =>
 (if v12 = 0 then
 qv_bo (f_X10_isPair qv_TT 106 (nI i) 2 6 M) (fun v13 =>
 qv_jn (fun (_ : Unit) =>
 qv_bo (f_X10_cuts qv_TT 106 (nI i) 2 1 (-2) M) (fun M15 =>
 some (1, M15))) (fun k14 =>
 (if v13 = 0 then
 qv_bo (f_X10_isPair qv_TT 106 (nI i) 6 2 M) (fun v16 =>
 (if v16 = 0 then
 some (0, M)
 else
 k14 ()))
 else
 k14 ())))
 else
 qv_bo (f_X10_cuts qv_TT 106 (nI i) 2 4 (-2) M) (fun M17 =>
 some (1, M17))))
 else
 qv_bo (f_X10_cuts qv_TT 106 (nI i) 2 2 4 M) (fun M18 =>
 some (1, M18))))
 else
 qv_bo (f_X10_cuts qv_TT 106 (nI i) 2 2 (-2) M) (fun M19 =>
 some (1, M19)))))) 8 0 qv_N rfl (qv_N_gt _ (by omega))
  rw [← zi_0] at ev
  rw [ev]
  by_cases c6 : v = 8
  · rw [if_pos (by rw [c6]; rfl)]
    exact y_close (s_at_w8 so (wv.mp c6)) (y_bc (by rw [zl8i]; exact y_cuts0 h (s_w8_ln hg (wv.mp c6))))
  have sw : ¬ s_w8 l i 8 = true := fun q => c6 (wv.mpr q)
  rw [if_neg (by rw [zl8i]; exact fun q => c6 ((nI_eq (by omega) (by omega)).mp q)), p11, zbo]
  by_cases c7 : l.getD i 9 = 1 ∧ l.getD (i + 1) 9 = 1
  · rw [if_pos c7, if_neg zl1n0]
    have hj : s_jn (l.getD i 9) (l.getD (i + 1) 9) = 2 := by rw [c7.1, c7.2]; rfl
    exact y_close (s_at_jn so sw (by omega) hj (by omega)) (y_bc (by rw [zl2i]; exact y_cuts1 h (by omega) (s_jn_ln hg hi (by omega))))
  rw [if_neg c7, if_pos rfl, p66, zbo]
  by_cases c8 : l.getD i 9 = 6 ∧ l.getD (i + 1) 9 = 6
  · rw [if_pos c8, if_neg zl1n0]
    have hl2 : i + 2 ≤ l.length := by
      apply Classical.byContradiction
      intro q
      have := (zg_get9 hg (i + 1)).2 (by omega)
      omega
    have c := y_cuts2 h (a := i) (g := 2) (k := 4) (by omega) (by omega) hl2
    rw [show i + 2 + 0 = i + 2 from rfl, List.take_append_drop, ← zl2i, ← zl4] at c
    exact y_close (s_at_uu so sw c8) (y_bc c)
  rw [if_neg c8, if_pos rfl, p22, zbo]
  by_cases c9 : l.getD i 9 = 2 ∧ l.getD (i + 1) 9 = 2
  · rw [if_pos c9, if_neg zl1n0]
    have hj : s_jn (l.getD i 9) (l.getD (i + 1) 9) = 4 := by rw [c9.1, c9.2]; rfl
    exact y_close (s_at_jn so sw c8 hj (by omega)) (y_bc (by rw [zl2i, zl4]; exact y_cuts1 h (by omega) (s_jn_ln hg hi (by omega))))
  rw [if_neg c9, if_pos rfl, p26, zbo, zjn]
  by_cases c10 : l.getD i 9 = 2 ∧ l.getD (i + 1) 9 = 6
  · rw [if_pos c10, if_neg zl1n0]
    have hj : s_jn (l.getD i 9) (l.getD (i + 1) 9) = 1 := by rw [c10.1, c10.2]; rfl
    exact y_close (s_at_jn so sw c8 hj (by omega)) (y_bc (by rw [zl2i, zl1i]; exact y_cuts1 h (by omega) (s_jn_ln hg hi (by omega))))
  rw [if_neg c10, if_pos rfl, p62, zbo]
  by_cases c11 : l.getD i 9 = 6 ∧ l.getD (i + 1) 9 = 2
  · rw [if_pos c11, if_neg zl1n0]
    have hj : s_jn (l.getD i 9) (l.getD (i + 1) 9) = 1 := by rw [c11.1, c11.2]; rfl
    exact y_close (s_at_jn so sw c8 hj (by omega)) (y_bc (by rw [zl2i, zl1i]; exact y_cuts1 h (by omega) (s_jn_ln hg hi (by omega))))
  rw [if_neg c11, if_pos rfl]
  refine y_close0 (s_at_no so sw c8 ?_) rfl
  unfold s_jn
  rw [if_neg c7, if_neg c9, if_neg (by omega)]
  omega
