/-! The reference's shortening to the end. -/
theorem s_at_len {l l' : List Nat} {i : Nat} (h : s_at l i = some l') : l'.length ≤ l.length := by
  unfold s_at at h
  split at h
  · cases h; simp only [List.length_append, List.length_take, List.length_drop]; omega
  · split at h
    · cases h; simp only [List.length_append, List.length_take, List.length_drop]; omega
    · split at h
      · cases h; simp only [List.length_set]; omega
      · split at h
        · cases h; simp only [List.length_append, List.length_take, List.length_drop, List.length_set]; omega
        · cases h
theorem s_once_len {l l' : List Nat} (h : s_once l = some l') : l'.length ≤ l.length := by
  obtain ⟨j, -, -, e⟩ := s_fd_ex _ _ h
  exact s_at_len e
theorem s_run_len : ∀ (n : Nat) (l : List Nat), (s_run n l).length ≤ l.length
  | 0, l => Nat.le_refl _
  | n + 1, l => by
    cases e : s_once l with
    | none => rw [s_run_n _ e]; exact Nat.le_refl _
    | some l' => rw [s_run_s _ e]; exact Nat.le_trans (s_run_len n l') (s_once_len e)
theorem y_sh_lp (k : qv_Mem → Option (Int32 × qv_Mem)) : ∀ (f n a : Nat) (M : qv_Mem) (l : List Nat), yR M l → (∀ g ∈ l, g < 7) → l.length ≤ 60 → s_mu l ≤ 2 * n → a ≤ l.length → (∀ j, j < a → s_at l j = none) → n * 61 + (l.length - a) < f → ∃ M1, qv_lp2 (b_X10_shorter_16 106 qv_TT k) f (nI a) M = k M1 ∧ yR M1 (s_run n l) ∧ yow M M1 := by
  intro f
  induction f with
  | zero => intro n a M l _ _ _ _ _ _ h; omega
  | succ f ih =>
    intro n a M l h hg h60 hmu ha hno hf
    rw [zN2]
    by_cases hl : a < l.length
    · obtain ⟨s1, s2⟩ := y_isRuled h hg hl
      cases e : s_at l a with
      | none =>
        have ih1 := ih n (a + 1) M l h hg h60 hmu hl (fun j hj => by
          by_cases q : j = a
          · rw [q]; exact e
          · exact hno j (by omega)) (by omega)
        generalize qv_lp2 (b_X10_shorter_16 106 qv_TT k) f = rr at ih1 ⊢
        unfold b_X10_shorter_16
        rw [zgS, h.1, if_neg (nI_ge hl (by omega)), s1 e, zbp, zjn, if_pos rfl, nI_1]
        exact ih1
      | some m =>
        obtain ⟨M1, e1, h1, k1⟩ := s2 m e
        have hm := s_at_mu hg hl e
        have hlen := s_at_len e
        obtain ⟨n, rfl⟩ : ∃ q, n = q + 1 := ⟨n - 1, by omega⟩
        have ih1 := ih n 0 M1 m h1 (s_at_lt hg e) (by omega) (by omega) (Nat.zero_le _) (fun j hj => by omega) (by omega)
        generalize qv_lp2 (b_X10_shorter_16 106 qv_TT k) f = rr at ih1 ⊢
        unfold b_X10_shorter_16
        have eo : s_once l = some m := s_fd_first l.length 0 a (fun j _ hj => hno j hj) (Nat.zero_le _) (by omega) e
        rw [zgS, h.1, if_neg (nI_ge hl (by omega)), e1, zbp, zjn, if_neg zl1n0, s_run_s _ eo, zi_0]
        obtain ⟨M2, e2, h2, k2⟩ := ih1
        exact ⟨M2, e2, h2, k1.tr k2⟩
    · have eo : s_once l = none := s_fd_all l.length 0 (fun j _ hj => hno j (by omega))
      unfold b_X10_shorter_16
      rw [zgS, h.1, if_pos (nI_le (by omega) (by omega)), s_run_n _ eo]
      exact ⟨M, rfl, h, yow.rf _⟩
theorem s_mu_le (l : List Nat) (h : l.length ≤ 60) : s_mu l ≤ 2 * 120 := by
  unfold s_mu
  have := List.count_le_length (a := 6) (l := l)
  omega
/-! The reference's words: cell 112 their gates, 113 their sizes. -/
def yW (M : qv_Mem) (W : Nat → List Nat) : Prop := ∀ w, w < 3 → M.1 113 w = nI (W w).length ∧ (W w).length ≤ 60 ∧ ∀ i, i < (W w).length → M.1 112 (60 * w + i) = nI ((W w).getD i 0)
def zWk (W : Nat → List Nat) : Prop := ∀ w, w < 3 → (W w).length ≤ 60 ∧ ∀ g ∈ W w, g < 7
theorem zt_word : qv_rf qv_TT 106 5 = 112 := by decide +kernel
theorem zt_size : qv_rf qv_TT 106 6 = 113 := by decide +kernel
def w_tk (F G : Nat → Int32) (o n : Nat) : Nat → Int32 := fun j => if j < n then G (o + j) else F j
theorem zi_mul {a b : Nat} : nI a * nI b = nI (a * b) := (Int32.ofNat_mul a b).symm
theorem y_takes {M : qv_Mem} {W : Nat → List Nat} (h : yW M W) {w : Nat} (hw : w < 3) : ∃ M1, f_X10_takes qv_TT 106 (nI w) M = some M1 ∧ yR M1 (W w) ∧ yow M M1 := by
  obtain ⟨a1, a2, a3⟩ := h w hw
  refine ⟨qv_upS (zgi M 122 (w_tk (M.1 122) (M.1 112) (60 * w) (W w).length)) 106 18 (nI (W w).length), ?_, ?_, (yow_g M _).tr (yow_S _ _)⟩
  · unfold f_X10_takes
    rw [zt_size, zi_ldI hw (by omega), a1, zpS, zjn, zi_0]
    have e0 : qv_upS M 106 18 (nI (W w).length) = qv_upS (zgi M 122 (w_tk (M.1 122) (M.1 112) (60 * w) 0)) 106 18 (nI (W w).length) := by
      have : w_tk (M.1 122) (M.1 112) (60 * w) 0 = M.1 122 := by
        funext j
        unfold w_tk
        rw [if_neg (by omega)]
      rw [this, zgi_self]
    have key := zfor2 (b := b_X10_takes_12 106 (nI w) qv_TT (fun M3 => some M3)) (k := fun M3 => some M3) (fun i => qv_upS (zgi M 122 (w_tk (M.1 122) (M.1 112) (60 * w) i)) 106 18 (nI (W w).length)) 0 (W w).length (Nat.zero_le _) (fun i r hi1 hi2 => ?_) (fun r => ?_) qv_N (qv_N_gt _ (by omega))
    · exact (congrArg (fun N => qv_lp2 (b_X10_takes_12 106 (nI w) qv_TT (fun M3 => some M3)) qv_N (nI 0) N) e0).trans key
    · unfold b_X10_takes_12
      dsimp only
      rw [zgS, zs_at, if_neg (nI_ge hi2 (by omega)), zt_word, zt_row, zl60, zi_mul, nI_add, zi_ldI (by omega) (by omega), zi_stI (by omega) (by omega), nI_1]
      have e : (qv_upS (zgi M 122 (w_tk (M.1 122) (M.1 112) (60 * w) i)) 106 18 (nI (W w).length)).1 112 (60 * w + i) = M.1 112 (60 * w + i) := by
        show (zgi M 122 (w_tk (M.1 122) (M.1 112) (60 * w) i)).1 112 (60 * w + i) = _
        rw [zgi_ne (show (112 : Nat) ≠ 122 by omega)]
      rw [e]
      have e2 : qv_upI (qv_upS (zgi M 122 (w_tk (M.1 122) (M.1 112) (60 * w) i)) 106 18 (nI (W w).length)) 122 i (M.1 112 (60 * w + i)) = qv_upS (qv_upI (zgi M 122 (w_tk (M.1 122) (M.1 112) (60 * w) i)) 122 i (M.1 112 (60 * w + i))) 106 18 (nI (W w).length) := rfl
      rw [e2, zgi_up]
      congr 3
      funext j
      unfold zui w_tk
      by_cases hj : j = i
      · rw [if_pos hj, if_pos (by omega), hj]
      · rw [if_neg hj]
        by_cases hj2 : j < i
        · rw [if_pos hj2, if_pos (by omega)]
        · rw [if_neg hj2, if_neg (by omega)]
    · unfold b_X10_takes_12
      dsimp only
      rw [zgS, zs_at, if_pos (nI_le (Nat.le_refl _) (by omega))]
  · refine yR_mk rfl (by omega) (fun i hi => ?_)
    unfold w_tk
    rw [if_pos hi, a3 i hi]
