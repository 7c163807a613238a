/-! write: the reference, items. -/
theorem y_rv12 {from_ : Nat} {x : List Nat} (hx : x.length ≤ 60) (hg : ∀ g ∈ x, g < 7) {M : qv_Mem} {l : List Nat} (hl : l.length = from_) (hf : from_ ≤ 480) (h : yrv M (l ++ x).length (some (l ++ x))) (kk : Int32 → qv_Mem → Option qv_Mem) : ∃ N, qv_lp3 (b_X10_reverses_12 106 (nI from_) qv_TT (nI (from_ + x.length)) kk) qv_N 0 0 M = kk (nI (zq_inv x).length) N ∧ (∀ j, j < x.length → N.1 127 j = nI (x.getD j 0)) ∧ N.2 = M.2 ∧ ∀ a, a ≠ 127 → N.1 a = M.1 a := by
  obtain ⟨h1, h2, h3⟩ := h
  obtain ⟨h4, h5⟩ := h3 _ rfl
  have hL : (l ++ x).length = from_ + x.length := by rw [List.length_append, hl]
  rw [zi_0]
  have key1 := zinv3 (b := b_X10_reverses_12 106 (nI from_) qv_TT (nI (from_ + x.length)) kk) (k := kk) (fun i v N => v = nI (wsm x i) ∧ (∀ j, j < i → N.1 127 j = nI (x.getD j 0)) ∧ N.2 = M.2 ∧ ∀ a, a ≠ 127 → N.1 a = M.1 a) 0 x.length (by omega) (fun i v N r _ hi hN => ?_) (fun v N r _ => ?_) qv_N (qv_N_gt _ (by omega)) (nI 0) M ⟨rfl, fun j hj => by omega, rfl, fun _ _ => rfl⟩
  · obtain ⟨v, N, ⟨a1, a2, a3, a4⟩, e⟩ := key1
    rw [a1, wsm_len x x.length (Nat.le_refl _), List.take_length] at e
    exact ⟨N, e, a2, a3, a4⟩
  · obtain ⟨n1, n2, n3, n4⟩ := hN
    unfold b_X10_reverses_12
    have g7 := zg_get hg i
    have v22 : N.1 122 (from_ + i) = nI (x.getD i 0) := by
      rw [n4 122 (by omega), h5 _ (by omega), ← hl, gd_r]
    have v27 : N.2.2 106 27 = 0 := by rw [n3]; exact h2
    rw [zi_sub (by omega) (by omega), show from_ + x.length - from_ = x.length by omega, if_neg (nI_ge hi (by omega)), zgS, v27, if_pos rfl, zt_row, zt_aside, nI_add, zi_ldI (by omega) (by omega), v22, zi_stI (by omega) (by omega), zi_ldI (by omega) (by omega), zup_at, if_pos rfl, zjn, nI_1, n1]
    have i5 : (zq_inv1 (x.getD i 0)).length = (if x.getD i 0 = 5 then 7 else if x.getD i 0 = 2 then 2 else 1) := by
      have : ∀ g, g < 7 → (zq_inv1 g).length = (if g = 5 then 7 else if g = 2 then 2 else 1) := by decide +kernel
      exact this _ g7
    have res : (∀ j, j < i + 1 → (qv_upI N 127 i (nI (x.getD i 0))).1 127 j = nI (x.getD j 0)) ∧ (qv_upI N 127 i (nI (x.getD i 0))).2 = M.2 ∧ ∀ a, a ≠ 127 → (qv_upI N 127 i (nI (x.getD i 0))).1 a = M.1 a := by
      refine ⟨fun j hj => ?_, n3, fun a ha => by rw [zup_ne ha]; exact n4 a ha⟩
      rw [zup_at]
      split
      · rename_i e
        rw [e]
      · exact n2 j (by omega)
    refine ⟨nI (wsm x (i + 1)), _, ⟨rfl, res.1, res.2.1, res.2.2⟩, ?_⟩
    show _ = r (nI (wsm x i + (zq_inv1 (x.getD i 0)).length)) _ _
    rw [i5]
    by_cases c2 : x.getD i 0 = 2
    · rw [if_pos (by rw [c2]; rfl), if_neg (by omega), if_pos c2]
      dsimp only
      rw [zl2i, nI_add]
    · rw [if_neg (by rw [zl2i]; exact fun z => c2 ((nI_eq (by omega) (by omega)).mp z)), zi_ldI (by omega) (by omega), zup_at, if_pos rfl]
      by_cases c5 : x.getD i 0 = 5
      · rw [if_pos (by rw [c5]; rfl), if_pos c5]
        dsimp only
        rw [zl7, nI_add]
      · rw [if_neg (by rw [zl5i]; exact fun z => c5 ((nI_eq (by omega) (by omega)).mp z)), if_neg c5, if_neg c2]
        dsimp only
        rw [nI_1]
  · unfold b_X10_reverses_12
    rw [zi_sub (by omega) (by omega), show from_ + x.length - from_ = x.length by omega, if_pos (nI_le (Nat.le_refl _) (by omega))]
theorem y_reverses {M : qv_Mem} {l : List Nat} {w : Option (List Nat)} {v : Option (List Nat)} {m m1 : Nat} (hv : ∀ l2, v = some l2 → l2.length = m) (hw : ∀ x, w = some x → x.length ≤ 60 ∧ ∀ g ∈ x, g < 7) (hm : m ≤ 420) (hmm : m ≤ m1) (hm1 : m1 ≤ 420) (h : yrv M m1 (vap v w)) : ∃ N m2, f_X10_reverses qv_TT 106 (nI m) M = some N ∧ yrv N m2 (vap v (twO w)) ∧ m ≤ m2 ∧ ((m2 ≤ m + 60 ∧ v ≠ none) ∨ m2 = m1) ∧ yrf M N ∧ N.2.2 106 25 = M.2.2 106 25 ∧ N.2.2 106 26 = M.2.2 106 26 := by
  have spent : vap v w = none → ∃ N m2, f_X10_reverses qv_TT 106 (nI m) M = some N ∧ yrv N m2 (vap v (twO w)) ∧ m ≤ m2 ∧ ((m2 ≤ m + 60 ∧ v ≠ none) ∨ m2 = m1) ∧ yrf M N ∧ N.2.2 106 25 = M.2.2 106 25 ∧ N.2.2 106 26 = M.2.2 106 26 := by
    intro hn
    rw [hn] at h
    obtain ⟨h1, h2, h3⟩ := h
    have hn2 : vap v (twO w) = none := by
      cases v with
      | none => rfl
      | some l2 =>
        cases w with
        | none => rfl
        | some x => cases hn
    rw [hn2]
    unfold f_X10_reverses
    rw [zgS, h1, zjn]
    obtain ⟨F, hF⟩ : ∃ g, qv_N = g + 1 := ⟨qv_N - 1, by have := qv_N_gt 5 (by omega); omega⟩
    have st : ∀ kk : Int32 → qv_Mem → Option qv_Mem, qv_lp3 (b_X10_reverses_12 106 (nI m) qv_TT (nI m1) kk) qv_N 0 0 M = kk 0 M := by
      intro kk
      rw [hF]
      show b_X10_reverses_12 106 (nI m) qv_TT (nI m1) kk (qv_lp3 _ F) 0 0 M = _
      unfold b_X10_reverses_12
      by_cases c : (nI m1 - nI m) ≤ 0
      · rw [if_pos c]
      · rw [if_neg c, zgS, h2, if_neg (show ¬ sv none = 0 by decide)]
    rw [st, zgS, h2, zjn, if_pos (show (0 : Int32) ≤ 60 by decide)]
    dsimp only
    rw [zpZx (show qv_01 (sv none ||| 0) = true by decide), zgS, zs_at, if_neg (show ¬ (sv none ||| 0) = 0 by decide)]
    refine ⟨_, m1, rfl, ⟨by rw [zs_ne2 (by omega)]; exact h1, by rw [zs_at]; decide, fun l hl => (by cases hl)⟩, hmm, Or.inr rfl, yrf_s (by omega), by rw [zs_ne2 (by omega)], by rw [zs_ne2 (by omega)]⟩
  cases v with
  | none => exact spent rfl
  | some l0 =>
    cases w with
    | none => exact spent rfl
    | some x =>
      have hl0 := hv l0 rfl
      obtain ⟨x60, xg⟩ := hw x rfl
      have h' : yrv M m1 (some (l0 ++ x)) := h
      have em : (l0 ++ x).length = m1 := (h'.2.2 _ rfl).1
      have em2 : m1 = m + x.length := by rw [← em, List.length_append, hl0]
      have il : (zq_inv x).length ≤ 7 * 60 := by
        have : ∀ y : List Nat, (∀ g ∈ y, g < 7) → (zq_inv y).length ≤ 7 * y.length := by
          intro y
          induction y with
          | nil => intro _; exact Nat.le_refl _
          | cons a y ih =>
            intro hy
            have b := (inv1_lt7 a (hy a List.mem_cons_self)).1
            have d := ih (fun g hg => hy g (List.mem_cons_of_mem _ hg))
            show (zq_inv y ++ zq_inv1 a).length ≤ 7 * (y.length + 1)
            rw [List.length_append]
            omega
        have := this x xg
        omega
      unfold f_X10_reverses
      rw [zgS, h'.1, em2, zjn]
      rw [← em] at h'
      obtain ⟨N, e1, a2, a3, a4⟩ := y_rv12 x60 xg hl0 (by omega) h' (fun (v2 : Int32) (M3 : qv_Mem) => qv_gS 106 27 M3 (fun v5 => qv_jn (fun (v6 : Int32) => qv_pZ 106 27 (v5 ||| v6) M3 (fun M8 => qv_gS 106 27 M8 (fun v9 => (if v9 = 0 then qv_pS 106 18 (nI m) M8 (fun M10 => qv_jn (fun (M11 : qv_Mem) => some M11) (fun k12 => qv_lp2 (b_X10_reverses_120 106 qv_TT k12) qv_N ((nI (m + x.length) - nI m) - 1) M10)) else some M8)))) (fun k7 => (if v2 ≤ 60 then k7 0 else k7 1))))
      have n27 : N.2.2 106 27 = 0 := by rw [a3]; exact h'.2.1
      have fN : yrf M N := ⟨by rw [a3], fun a _ h2 => a4 a h2, fun a k _ => by rw [a3]⟩
      rw [e1, zgS, n27, zjn, zl60, zi_sub (by omega) (by omega), show m + x.length - m = x.length by omega]
      show ∃ N2 m2, _ ∧ yrv N2 m2 (vap (some l0) (if (zq_inv x).length ≤ 60 then some (zq_inv x) else none)) ∧ _
      by_cases d : (zq_inv x).length ≤ 60
      · simp only [if_pos d]
        rw [if_pos (nI_le d (by omega))]
        rw [zpZx (show qv_01 ((0 : Int32) ||| 0) = true by decide), zgS, zs_at, if_pos (show ((0 : Int32) ||| 0) = 0 by decide), zpS, zjn]
        generalize hM10 : qv_upS (qv_upS N 106 27 ((0 : Int32) ||| 0)) 106 18 (nI m) = M10
        have f10 : yrf M M10 := by rw [← hM10]; exact (fN.tr (yrf_s (by omega))).tr (yrf_s (by omega))
        have i10 : M10.1 = N.1 := by rw [← hM10]; rfl
        have r10 : yrv M10 (l0 ++ zq_inv (x.drop x.length)).length (some (l0 ++ zq_inv (x.drop x.length))) := by
          have ez : l0 ++ zq_inv (x.drop x.length) = l0 := by rw [List.drop_length]; show l0 ++ [] = l0; rw [List.append_nil]
          rw [ez]
          refine ⟨by rw [← hM10, zs_at, hl0], by rw [← hM10, zs_ne2 (by omega), zs_at]; show ((0 : Int32) ||| 0) = 0; decide, fun l2 hl2 => ?_⟩
          have e3 : l0 = l2 := Option.some.inj hl2
          rw [← e3]
          refine ⟨rfl, fun i hi => ?_⟩
          rw [i10, a4 122 (by omega), (h'.2.2 _ rfl).2 i (by rw [List.length_append]; omega), gd_l hi]
        obtain ⟨Q, e4, q1, q2, q3, q4⟩ := y_rv120 x60 xg (l := l0) (by omega) (fun (M11 : qv_Mem) => some M11) x.length qv_N M10 (Nat.le_refl _) (qv_N_gt _ (by omega)) (fun j hj => by rw [i10]; exact a2 j hj) r10
        refine ⟨Q, (l0 ++ zq_inv x).length, e4, q1, ?_, Or.inl ⟨?_, fun z => (by cases z)⟩, f10.tr q2, ?_, ?_⟩
        · rw [List.length_append]; omega
        · rw [List.length_append]; omega
        · rw [q3, ← hM10, zs_ne2 (by omega), zs_ne2 (by omega), a3]
        · rw [q4, ← hM10, zs_ne2 (by omega), zs_ne2 (by omega), a3]
      · simp only [if_neg d]
        rw [if_neg (zi_nle (a := (zq_inv x).length) (b := 60) (by omega) (by omega))]
        rw [zpZx (show qv_01 ((0 : Int32) ||| 1) = true by decide), zgS, zs_at, if_neg (show ¬ ((0 : Int32) ||| 1) = 0 by decide)]
        refine ⟨_, m1, rfl, ⟨?_, by rw [zs_at]; show ((0 : Int32) ||| 1) = 1; decide, fun l hl => (by cases hl)⟩, hmm, Or.inr em2, fN.tr (yrf_s (by omega)), by rw [zs_ne2 (by omega), a3], by rw [zs_ne2 (by omega), a3]⟩
        rw [zs_ne2 (by omega), a3, h'.1, em]
