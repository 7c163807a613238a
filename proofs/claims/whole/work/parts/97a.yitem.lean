/-! write: the reference's item. -/
theorem vap_nil (v : Option (List Nat)) : vap v (some []) = v := by
  cases v with
  | none => rfl
  | some l =>
    show some (l ++ []) = some l
    rw [List.append_nil]
theorem lok_nil : lok (some []) := fun x hx => by
  have e : ([] : List Nat) = x := Option.some.inj hx
  rw [← e]
  exact ⟨Nat.zero_le _, fun g hg => (by cases hg)⟩
theorem y_items {n : Nat} (hI : yri n) : yrs (n + 1) := by
  intro B hk p o m v M ho hp hn hT hS hm hv
  have h80 := hk.1
  have hF := (F_all h80 n).1
  show ∃ N m2, f_X10_items (f_it n).1 (f_it n).2 qv_TT 106 M = some (y_b2i (itemsF B (pIt B n).1 p o).1, N) ∧ yrf M N ∧ N.2.2 106 25 = nI (itemsF B (pIt B n).1 p o).2.1 ∧ b01 N ∧ ((itemsF B (pIt B n).1 p o).1 = true → lok (itemsF B (pIt B n).1 p o).2.2 ∧ yst N (itemsF B (pIt B n).1 p o).2.1 o m2 (vap v (itemsF B (pIt B n).1 p o).2.2) ∧ m ≤ m2 ∧ m2 ≤ 420)
  unfold f_X10_items itemsF
  rw [y_begins hk hT (by omega) ho hS.1 hS.2.1, zbo]
  by_cases c : bgn B p o = true
  · rw [if_pos c, if_neg zl1n0, if_pos c, zgS, hS.2.2.1, zjn]
    have hS' : yst M p o m (vap v (some [])) := by rw [vap_nil]; exact hS
    obtain ⟨N, m2, e1, g1, g2, g3, g4⟩ := y_loop hI hk ho (v := v) (m0 := m) (fun l hl => ⟨yrv_len hS.2.2 hl, hv l hl⟩) hm hF (fun (v3 : Int32) (M4 : qv_Mem) => qv_gd (qv_01 v3) (some (v3, M4))) 81 p qv_N M m (some []) hp (by omega) (by omega) (qv_N_gt _ (by omega)) hT hS' (Nat.le_refl _) hm lok_nil
    rw [e1]
    have q : ∀ b : Bool, qv_01 (y_b2i b) = true := by decide
    rw [q, zgd]
    exact ⟨N, m2, rfl, g1, g2, g3, g4⟩
  · rw [if_neg c, if_pos rfl, if_neg c]
    exact ⟨M, m, rfl, yrf.rf _, hS.1, hS.b, fun q => (by cases q)⟩
theorem y_isd {B : List Nat} (hk : zBk B) (q : Nat) : f_X10_isIn (zhr B q).toInt64 48 57 = some (if 48 ≤ hb B q ∧ hb B q ≤ 57 then 1 else 0) := by
  unfold f_X10_isIn
  have e : (zhr B q).toInt64.toInt = (zhr B q).toInt := Int32.toInt_toInt64 _
  have z : (48 : Int64).toInt = 48 := by decide
  have y : (57 : Int64).toInt = 57 := by decide
  have t : ((zhr B q).toInt < 48 ∨ 57 < (zhr B q).toInt) ↔ ¬ (48 ≤ hb B q ∧ hb B q ≤ 57) := by
    unfold zhr
    by_cases c : q < B.length
    · have := (hb_in hk c).2
      rw [if_pos c, nI_toInt (by omega)]
      omega
    · rw [if_neg c, hb_out (by omega)]
      have d : (-2 : Int32).toInt = -2 := by decide
      rw [d]
      omega
  by_cases c1 : (zhr B q).toInt < 48
  · rw [if_pos ((lg_cmp_lt _ _).mpr (Int64.lt_iff_toInt_lt.mpr (by rw [e, z]; exact c1))), if_neg (t.mp (Or.inl c1))]
  · rw [if_neg (fun w => by have := Int64.lt_iff_toInt_lt.mp ((lg_cmp_lt _ _).mp w); rw [e, z] at this; omega)]
    by_cases c2 : 57 < (zhr B q).toInt
    · rw [if_pos ((lg_cmp_gt _ _).mpr (Int64.lt_iff_toInt_lt.mpr (by rw [e, y]; exact c2))), if_neg (t.mp (Or.inr c2))]
    · rw [if_neg (fun w => by have := Int64.lt_iff_toInt_lt.mp ((lg_cmp_gt _ _).mp w); rw [e, y] at this; omega), if_pos (by
        by_cases w : 48 ≤ hb B q ∧ hb B q ≤ 57
        · exact w
        · have := t.mpr w
          omega)]
theorem rpl_pos {a : List Nat} {k : Nat} (hk : 0 < k) : (rpl k a).take a.length = a := by
  have hl := rpl_len a k
  have h1 : a.length ≤ a.length * k := Nat.le_mul_of_pos_right _ hk
  apply zl_ext
  · rw [List.length_take]; omega
  · intro j hj
    rw [List.length_take] at hj
    have e : ((rpl k a).take a.length).getD j 0 = (rpl k a).getD j 0 := by
      rw [List.getD_eq_getElem?_getD, List.getElem?_take, if_pos (by omega), List.getD_eq_getElem?_getD]
    rw [e, rpl_get k j (by omega), Nat.mod_eq_of_lt (by omega)]
theorem y_224 {a : List Nat} {k : Nat} (ha : a.length ≤ 60) (hk0 : 0 < k) (hk9 : k ≤ 9) {M : qv_Mem} {l : List Nat} (hl : l.length ≤ 420) (hak : a.length * k ≤ 60) (h : yrv M (l.length + a.length) (some (l ++ a))) : ∃ N, qv_lp2 (b_X10_item_224 106 qv_TT (nI l.length) (nI k) (nI (l.length + a.length)) (fun M29 => some ((1 : Int32), M29))) qv_N (nI a.length) M = some (1, N) ∧ yrv N (l.length + a.length * k) (some (l ++ rpl k a)) ∧ yrf M N ∧ N.2.2 106 25 = M.2.2 106 25 ∧ N.2.2 106 26 = M.2.2 106 26 := by
  have rl := rpl_len a k
  have h1 : a.length ≤ a.length * k := Nat.le_mul_of_pos_right _ hk0
  have key1 := zinv2 (b := b_X10_item_224 106 qv_TT (nI l.length) (nI k) (nI (l.length + a.length)) (fun M29 => some ((1 : Int32), M29))) (k := (fun M29 => some ((1 : Int32), M29))) (fun j N => yrv N (l.length + j) (some (l ++ (rpl k a).take j)) ∧ yrf M N ∧ N.2.2 106 25 = M.2.2 106 25 ∧ N.2.2 106 26 = M.2.2 106 26) a.length (a.length * k) h1 (fun j N r hj1 hj2 hN => ?_) (fun N r _ => ?_) qv_N (qv_N_gt _ (by omega)) M ⟨by rw [rpl_pos hk0]; exact h, yrf.rf _, rfl, rfl⟩
  · obtain ⟨N, ⟨a1, a2, a3, a4⟩, e⟩ := key1
    rw [← rl, List.take_length, rl] at a1
    exact ⟨N, e, a1, a2, a3, a4⟩
  · obtain ⟨n1, n2, n3, n4⟩ := hN
    unfold b_X10_item_224
    have a0 : 0 < a.length := by
      rcases Nat.eq_zero_or_pos a.length with z | z
      · rw [z, Nat.zero_mul] at hj2; omega
      · exact z
    have v22 : N.1 122 (l.length + j - a.length) = nI ((rpl k a).getD j 0) := by
      have := (n1.2.2 _ rfl).2 (l.length + j - a.length) (by omega)
      rw [this, show l.length + j - a.length = l.length + (j - a.length) by omega, gd_r]
      have e : ((rpl k a).take j).getD (j - a.length) 0 = (rpl k a).getD (j - a.length) 0 := by
        rw [List.getD_eq_getElem?_getD, List.getElem?_take, if_pos (by omega), List.getD_eq_getElem?_getD]
      rw [e, rpl_get k (j - a.length) (by omega), rpl_get k j (by omega)]
      congr 2
      conv => rhs; rw [show j = (j - a.length) + a.length by omega, Nat.add_mod_right]
    obtain ⟨Q, e1, q1, q2, q3, q4, -⟩ := y_puts n1 (by omega) ((rpl k a).getD j 0)
    rw [zi_sub (by omega) (by omega), show l.length + a.length - l.length = a.length by omega, zi_mul, if_neg (nI_ge hj2 (by omega)), zgS, n1.2.1, if_pos (show sv (some (l ++ (rpl k a).take j)) = 0 from rfl), zt_row, nI_add, zi_sub (by omega) (by omega), zi_ldI (by omega) (by omega), v22, e1, zbo, nI_1]
    refine ⟨Q, ⟨?_, n2.tr q2, q3.trans n3, q4.trans n4⟩, rfl⟩
    have q1' : yrv Q (l.length + j + 1) (some ((l ++ (rpl k a).take j) ++ [(rpl k a).getD j 0])) := q1
    rw [List.append_assoc, ← take_snoc (by omega)] at q1'
    exact q1'
  · unfold b_X10_item_224
    rw [zi_sub (by omega) (by omega), show l.length + a.length - l.length = a.length by omega, zi_mul, if_pos (nI_le (Nat.le_refl _) (by omega))]
/-- what stands behind a group: so many times -/
noncomputable def y_grp (v3 v18 : Int32) (M19 : qv_Mem) : Option (Int32 × qv_Mem) :=
 qv_gS 106 18 M19 (fun v21 =>
 qv_gS 106 27 M19 (fun v22 =>
 qv_jn (fun (v23 : Int32) =>
 qv_pZ 106 27 (v22 ||| v23) M19 (fun M25 =>
 qv_jn (fun (v26 : Int32) =>
 qv_pS 106 18 v26 M25 (fun M28 =>
 qv_jn (fun (M29 : qv_Mem) =>
 some ((1 : Int32), M29)) (fun k30 =>
 qv_lp2 (b_X10_item_224 106 qv_TT v3 v18 v21 k30) qv_N (v21 - v3) M28))) (fun k27 =>
 (if v18 = 0 then
 k27 v3
 else
 qv_gS 106 18 M25 (fun v37 =>
 k27 v37))))) (fun k24 =>
 (if ((v21 - v3) * v18) ≤ 60 then
 k24 0
 else
 k24 1))))
theorem y_group {M : qv_Mem} {m m1 k : Nat} {v w : Option (List Nat)} (hv : ∀ l, v = some l → l.length = m) (hw : lok w) (hm : m ≤ m1) (hm1 : m1 ≤ 420) (hk9 : k ≤ 9) (h : yrv M m1 (vap v w)) : ∃ N m2, y_grp (nI m) (nI k) M = some (1, N) ∧ yrv N m2 (vap v (rpO k w)) ∧ m ≤ m2 ∧ m2 ≤ 480 ∧ ((m2 ≤ m + 60 ∧ v ≠ none) ∨ m2 ≤ m1) ∧ yrf M N ∧ N.2.2 106 25 = M.2.2 106 25 ∧ N.2.2 106 26 = M.2.2 106 26 := by
  have mk : (m1 - m) * k ≤ 3780 := by
    have := Nat.mul_le_mul (show m1 - m ≤ 420 by omega) hk9
    omega
  obtain ⟨h1, h2, h3⟩ := h
  unfold y_grp
  rw [zgS, h1, zgS, h2, zjn, zi_sub hm (by omega), zi_mul, zl60]
  have dead : ∀ b : Int32, (b = 0 ∨ b = 1) → (sv (vap v w) ||| b) = 1 → vap v (rpO k w) = none → ∃ N m2, qv_pZ 106 27 (sv (vap v w) ||| b) M (fun M25 => qv_jn (fun (v26 : Int32) => qv_pS 106 18 v26 M25 (fun M28 => qv_jn (fun (M29 : qv_Mem) => some ((1 : Int32), M29)) (fun k30 => qv_lp2 (b_X10_item_224 106 qv_TT (nI m) (nI k) (nI m1) k30) qv_N (nI (m1 - m)) M28))) (fun k27 => (if nI k = 0 then k27 (nI m) else qv_gS 106 18 M25 (fun v37 => k27 v37)))) = some (1, N) ∧ yrv N m2 (vap v (rpO k w)) ∧ m ≤ m2 ∧ m2 ≤ 480 ∧ ((m2 ≤ m + 60 ∧ v ≠ none) ∨ m2 ≤ m1) ∧ yrf M N ∧ N.2.2 106 25 = M.2.2 106 25 ∧ N.2.2 106 26 = M.2.2 106 26 := by
    intro b hb2 h01 hn
    rw [zpZx (y_pz _ b hb2).1, h01, zjn, hn]
    have lp : ∀ Q : qv_Mem, Q.2.2 106 27 = 1 → qv_lp2 (b_X10_item_224 106 qv_TT (nI m) (nI k) (nI m1) (fun (M29 : qv_Mem) => some ((1 : Int32), M29))) qv_N (nI (m1 - m)) Q = some (1, Q) := fun Q hQ => by
      obtain ⟨F, hF⟩ : ∃ g, qv_N = g + 1 := ⟨qv_N - 1, by have := qv_N_gt 5 (by omega); omega⟩
      rw [hF, zN2]
      unfold b_X10_item_224
      by_cases c : ((nI m1 - nI m) * nI k) ≤ nI (m1 - m)
      · rw [if_pos c]
      · rw [if_neg c, zgS, hQ, if_neg zl1n0]
    have fin : ∀ x, m ≤ x → x ≤ m1 → ∃ N m2, qv_pS 106 18 (nI x) (qv_upS M 106 27 1) (fun M28 => qv_jn (fun (M29 : qv_Mem) => some ((1 : Int32), M29)) (fun k30 => qv_lp2 (b_X10_item_224 106 qv_TT (nI m) (nI k) (nI m1) k30) qv_N (nI (m1 - m)) M28)) = some (1, N) ∧ yrv N m2 none ∧ m ≤ m2 ∧ m2 ≤ 480 ∧ ((m2 ≤ m + 60 ∧ v ≠ none) ∨ m2 ≤ m1) ∧ yrf M N ∧ N.2.2 106 25 = M.2.2 106 25 ∧ N.2.2 106 26 = M.2.2 106 26 := fun x hx1 hx2 => by
      rw [zpS, zjn, lp _ (by rw [zs_ne2 (by omega), zs_at])]
      refine ⟨_, x, rfl, ⟨zs_at _ _ _ _, by rw [zs_ne2 (by omega), zs_at]; rfl, fun l hl => (by cases hl)⟩, hx1, by omega, Or.inr hx2, (yrf_s (by omega)).tr (yrf_s (by omega)), ?_, ?_⟩
      · rw [zs_ne2 (by omega), zs_ne2 (by omega)]
      · rw [zs_ne2 (by omega), zs_ne2 (by omega)]
    by_cases c : nI k = 0
    · rw [if_pos c]
      exact fin m (Nat.le_refl _) hm
    · rw [if_neg c, zgS]
      have e18 : (qv_upS M 106 27 1).2.2 106 18 = nI m1 := by rw [zs_ne2 (by omega)]; exact h1
      rw [e18]
      exact fin m1 hm (Nat.le_refl _)
  cases e : vap v w with
  | none =>
    rw [e] at dead
    have hn : vap v (rpO k w) = none := by
      cases v with
      | none => rfl
      | some l =>
        cases w with
        | none => rfl
        | some x => cases e
    by_cases c : (m1 - m) * k ≤ 60
    · rw [if_pos (nI_le c (by omega))]
      exact dead 0 (Or.inl rfl) (by decide) hn
    · rw [if_neg (zi_nle (a := (m1 - m) * k) (b := 60) (by omega) (by omega))]
      exact dead 1 (Or.inr rfl) (by decide) hn
  | some la =>
    obtain ⟨l, a, q1, q2, q3⟩ := vap_len e
    obtain ⟨a60, ag⟩ := hw a q2
    have hl := hv l q1
    obtain ⟨ln, lr⟩ := h3 la e
    rw [q3, List.length_append, hl] at ln
    have en : m1 - m = a.length := by omega
    have er : rpO k w = if a.length * k ≤ 60 then some (rpl k a) else none := by rw [q2]; rfl
    rw [e] at dead
    rw [en]
    by_cases c : a.length * k ≤ 60
    · rw [if_pos (nI_le c (by omega)), er, if_pos c, q1]
      dsimp only
      have e00 : sv (some la) ||| 0 = 0 := by show ((0 : Int32) ||| 0) = 0; decide
      rw [e00, zpZ0, zjn]
      show ∃ N m2, _ ∧ yrv N m2 (some (l ++ rpl k a)) ∧ _
      by_cases k0 : k = 0
      · rw [if_pos (show nI k = 0 by rw [k0]; rfl)]
        dsimp only
        rw [zpS, zjn]
        obtain ⟨F, hF⟩ : ∃ g, qv_N = g + 1 := ⟨qv_N - 1, by have := qv_N_gt 5 (by omega); omega⟩
        rw [hF, zN2]
        unfold b_X10_item_224
        rw [zi_sub hm (by omega), zi_mul, k0, Nat.mul_zero, if_pos (nI_le (Nat.zero_le _) (by omega))]
        refine ⟨_, m, rfl, ⟨zs_at _ _ _ _, by rw [zs_ne2 (by omega), zs_at]; rfl, fun l2 hl2 => ?_⟩, Nat.le_refl _, by omega, Or.inl ⟨by omega, fun z => (by cases z)⟩, (yrf_s (by omega)).tr (yrf_s (by omega)), by rw [zs_ne2 (by omega), zs_ne2 (by omega)], by rw [zs_ne2 (by omega), zs_ne2 (by omega)]⟩
        have e2 : l ++ [] = l2 := Option.some.inj hl2
        rw [List.append_nil] at e2
        rw [← e2]
        refine ⟨hl, fun i hi => ?_⟩
        show M.1 122 i = _
        rw [lr i (by omega), q3, gd_l (by omega)]
      · rw [if_neg (nI_ne0 (by omega) (by omega)), zgS]
        have e18 : (qv_upS M 106 27 0).2.2 106 18 = nI m1 := by rw [zs_ne2 (by omega)]; exact h1
        rw [e18]
        dsimp only
        rw [zpS, zjn]
        have hm1e : m1 = l.length + a.length := by omega
        have h' : yrv (qv_upS (qv_upS M 106 27 0) 106 18 (nI m1)) (l.length + a.length) (some (l ++ a)) := by
          refine ⟨by rw [zs_at, hm1e], by rw [zs_ne2 (by omega), zs_at]; rfl, fun l2 hl2 => ?_⟩
          have e2 : l ++ a = l2 := Option.some.inj hl2
          rw [← e2]
          refine ⟨List.length_append, fun i hi => ?_⟩
          show M.1 122 i = _
          rw [lr i (by omega), q3]
        obtain ⟨N, e3, b1, b2, b3, b4⟩ := y_224 a60 (by omega) hk9 (show l.length ≤ 420 by omega) c h'
        rw [← hl, hm1e] at *
        refine ⟨N, l.length + a.length * k, e3, b1, by omega, by omega, Or.inl ⟨by omega, fun z => (by cases z)⟩, ((yrf_s (by omega)).tr (yrf_s (by omega))).tr b2, ?_, ?_⟩
        · rw [b3, zs_ne2 (by omega), zs_ne2 (by omega)]
        · rw [b4, zs_ne2 (by omega), zs_ne2 (by omega)]
    · rw [if_neg (zi_nle (a := a.length * k) (b := 60) (by rw [en] at mk; omega) (by rw [en] at mk; omega))]
      rw [en] at dead
      refine dead 1 (Or.inr rfl) (by show ((0 : Int32) ||| 1) = 1; decide) ?_
      rw [er, if_neg c]
      cases v <;> rfl
