/-! The class's shortening. -/
theorem zsn6 {b : Nat} (hb : b < 10) : (zsn b = (6 : Int32)) = (b = 6) := by
  have : ∀ b, b < 10 → ((zsn b = (6 : Int32)) ↔ (b = 6)) := by decide +kernel
  exact propext (this b hb)
theorem zsnge {b : Nat} (hb : b < 10) : ((0 : Int32) ≤ zsn b) = (b < 7) := by
  have : ∀ b, b < 10 → (((0 : Int32) ≤ zsn b) ↔ (b < 7)) := by decide +kernel
  exact propext (this b hb)
theorem zsn_lt {b : Nat} (hb : b < 7) : zsn b = nI b := by unfold zsn; rw [if_pos hb]
theorem s_jn10 (a b : Nat) : s_jn a b < 10 := by
  unfold s_jn
  split
  · omega
  · split
    · omega
    · split <;> omega
theorem w_set {M : qv_Mem} {t p : Nat} {l : List Nat} (h : zR M t p l) (i g : Nat) : zR (qv_upI M p i (nI g)) t p (l.set i g) := by
  refine ⟨?_, by rw [List.length_set]; exact h.2.1, fun j hj => ?_⟩
  · rw [List.length_set]
    exact h.1
  · rw [List.length_set] at hj
    rw [zgi_u1, zgi_at]
    unfold zui
    by_cases e : j = i
    · rw [if_pos e, e]
      simp [List.getD_eq_getElem?_getD, show i < l.length by omega]
    · rw [if_neg e, h.2.2 j hj]
      simp [List.getD_eq_getElem?_getD, List.getElem?_set, show ¬ i = j from fun q => e q.symm]
theorem zow_u (M : qv_Mem) (t p j : Nat) (v : Int32) : zow M (qv_upI M p j v) t p := by
  rw [zgi_u1]
  exact zow_g M t p _
theorem s_out_ln {l : List Nat} (hg : ∀ g ∈ l, g < 7) {i : Nat} (hi : i < l.length) (h : s_out (l.getD i 9) (l.getD (i + 1) 9) = true) : i + 2 ≤ l.length := by
  apply Classical.byContradiction
  intro q
  have e := (zg_get9 hg (i + 1)).2 (by omega)
  have a := ((zg_get9 hg i).1 hi).2
  rw [e] at h
  have : ∀ a, a < 7 → s_out a 9 = false := by decide
  rw [this _ a] at h
  cases h
theorem s_jn_ln {l : List Nat} (hg : ∀ g ∈ l, g < 7) {i : Nat} (hi : i < l.length) (h : s_jn (l.getD i 9) (l.getD (i + 1) 9) < 7) : i + 2 ≤ l.length := by
  apply Classical.byContradiction
  intro q
  have e := (zg_get9 hg (i + 1)).2 (by omega)
  have a := ((zg_get9 hg i).1 hi).2
  rw [e] at h
  have : ∀ a, a < 7 → s_jn a 9 = 9 := by decide
  rw [this _ a] at h
  omega
theorem s_w8_all {l : List Nat} {i : Nat} : ∀ n, n ≤ 8 → s_w8 l i n = true → ∀ k, 8 - n ≤ k → k < 8 → l.getD (i + k) 9 = 5
  | 0, _, _, k, a, b => by omega
  | n + 1, hn, h, k, a, b => by
    unfold s_w8 at h
    rw [Bool.and_eq_true, decide_eq_true_iff] at h
    by_cases e : k = 8 - (n + 1)
    · rw [e]; exact h.1
    · exact s_w8_all n (by omega) h.2 k (by omega) b
theorem s_w8_ln {l : List Nat} (hg : ∀ g ∈ l, g < 7) {i : Nat} (h : s_w8 l i 8 = true) : i + 8 ≤ l.length := by
  apply Classical.byContradiction
  intro q
  have e := s_w8_all 8 (Nat.le_refl _) h 7 (by omega) (by omega)
  rw [(zg_get9 hg (i + 7)).2 (by omega)] at e
  omega
theorem w_shortenAt {T : List qv_Ent} {t p : Nat} (hp : qv_rf T t 0 = p) {M : qv_Mem} {l : List Nat} (h : zR M t p l) (hg : ∀ g ∈ l, g < 7) {i : Nat} (hi : i < l.length) : (s_at l i = none → f_X6_shortenAt T t (nI i) M = some (0, M)) ∧ (∀ l', s_at l i = some l' → ∃ M1, f_X6_shortenAt T t (nI i) M = some (1, M1) ∧ zR M1 t p l' ∧ zow M M1 t p) := by
  have h60 := h.2.1
  obtain ⟨a1, a2⟩ := (zg_get9 hg i).1 hi
  have b1 := zg_get10 hg (i + 1)
  have ev : M.1 p i = zsn (l.getD i 9) := by rw [h.2.2 i hi, ← a1, zsn_lt a2]
  unfold f_X6_shortenAt s_at
  rw [hp, zi_ldI (by omega) (by omega), nI_1, w_atn hp h hg (by omega), zbo, ev, w_goesOut _ a2 _ b1, zbo]
  by_cases c1 : s_out (l.getD i 9) (l.getD (i + 1) 9) = true
  · rw [if_pos c1, if_pos c1, if_neg zl1n0]
    refine ⟨fun q => (by cases q), fun l' hl' => ?_⟩
    cases hl'
    obtain ⟨M1, e1, h1, k1⟩ := w_cut hp h (a := i) (m := 2) (s_out_ln hg hi c1)
    rw [zl2i, e1, zbo]
    exact ⟨M1, rfl, h1, k1⟩
  · rw [if_neg c1, if_neg c1, if_pos rfl, zl5i, w_standsEightTimes hp h hg (by omega), zbo]
    by_cases c2 : s_w8 l i 8 = true
    · rw [if_pos c2, if_pos c2, if_neg zl1n0]
      refine ⟨fun q => (by cases q), fun l' hl' => ?_⟩
      cases hl'
      obtain ⟨M1, e1, h1, k1⟩ := w_cut hp h (a := i) (m := 8) (s_w8_ln hg c2)
      rw [zl8i, e1, zbo]
      exact ⟨M1, rfl, h1, k1⟩
    · rw [if_neg c2, if_neg c2, if_pos rfl, zjn, w_joinOf _ a2 _ b1, zbo]
      by_cases c3 : l.getD i 9 = 6 ∧ l.getD (i + 1) 9 = 6
      · have e6 : zsn 6 = 6 := by decide
        have hl2 : i + 1 < l.length := by
          apply Classical.byContradiction
          intro q
          have := (zg_get9 hg (i + 1)).2 (by omega)
          omega
        rw [if_pos c3, c3.1, c3.2, if_pos e6, if_pos e6, zi_stI (by omega) (by omega), zi_stI (by omega) (by omega)]
        refine ⟨fun q => (by cases q), fun l' hl' => ?_⟩
        cases hl'
        exact ⟨_, rfl, w_set (w_set h i 2) (i + 1) 4, (zow_u M t p i _).tr (zow_u _ t p (i + 1) _)⟩
      · have n3 : (if zsn (l.getD i 9) = 6 then (if zsn (l.getD (i + 1) 9) = 6 then (qv_stI 60 p (nI i) 2 M (fun M9 => qv_stI 60 p (nI (i + 1)) 4 M9 (fun M10 => some ((1 : Int32), M10)))) else (if 0 ≤ zsn (s_jn (l.getD i 9) (l.getD (i + 1) 9)) then qv_stI 60 p (nI i) (zsn (s_jn (l.getD i 9) (l.getD (i + 1) 9))) M (fun M7 => qv_bo (f_X6_cut T t (nI (i + 1)) 1 M7) (fun M8 => some ((1 : Int32), M8))) else some (0, M))) else (if 0 ≤ zsn (s_jn (l.getD i 9) (l.getD (i + 1) 9)) then qv_stI 60 p (nI i) (zsn (s_jn (l.getD i 9) (l.getD (i + 1) 9))) M (fun M7 => qv_bo (f_X6_cut T t (nI (i + 1)) 1 M7) (fun M8 => some ((1 : Int32), M8))) else some (0, M))) = (if 0 ≤ zsn (s_jn (l.getD i 9) (l.getD (i + 1) 9)) then qv_stI 60 p (nI i) (zsn (s_jn (l.getD i 9) (l.getD (i + 1) 9))) M (fun M7 => qv_bo (f_X6_cut T t (nI (i + 1)) 1 M7) (fun M8 => some ((1 : Int32), M8))) else some (0, M)) := by
          by_cases d1 : l.getD i 9 = 6
          · have d2 : ¬ l.getD (i + 1) 9 = 6 := fun q => c3 ⟨d1, q⟩
            rw [d1, if_pos (show zsn 6 = 6 by decide), if_neg (fun q => d2 ((zsn6 b1).mp q))]
          · rw [if_neg (fun q => d1 ((zsn6 (show l.getD i 9 < 10 by omega)).mp q))]
        rw [if_neg c3]
        refine Eq.mpr (by rw [n3]) ?_
        by_cases c4 : s_jn (l.getD i 9) (l.getD (i + 1) 9) < 7
        · rw [if_pos c4, if_pos ((zsnge (s_jn10 _ _)).mpr c4), zi_stI (by omega) (by omega), zsn_lt c4]
          refine ⟨fun q => (by cases q), fun l' hl' => ?_⟩
          cases hl'
          have hl2 := s_jn_ln hg hi c4
          obtain ⟨M1, e1, h1, k1⟩ := w_cut hp (w_set h i (s_jn (l.getD i 9) (l.getD (i + 1) 9))) (a := i + 1) (m := 1) (by rw [List.length_set]; omega)
          rw [zl1i, e1, zbo]
          exact ⟨M1, rfl, h1, (zow_u M t p i _).tr k1⟩
        · rw [if_neg c4, if_neg (fun q => c4 ((zsnge (s_jn10 _ _)).mp q))]
          exact ⟨fun _ => rfl, fun l' hl' => by cases hl'⟩
