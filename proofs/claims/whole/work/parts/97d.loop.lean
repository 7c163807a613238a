/-! The law's loop: each group of five is one call; both sides answer alike. -/
theorem zsx {α : Type} {xs : Nat → Int32} {Ls n : Nat} {j : Int32} (hj : j = nI n) (h : n < Ls) (hL : Ls ≤ 2560) (k : Int32 → Option α) : qv_sc xs Ls j k = k (xs n) := by
  unfold qv_sc
  rw [hj, if_pos (zi_in h (by omega)), nI_clamp (by omega)]
theorem zlw5 : ∀ n, n < 5 → nI n - 5 < nI 0 := by decide +kernel
set_option maxHeartbeats 4000000 in
set_option maxRecDepth 100000 in
theorem law_step {xs : Nat → Int32} {Ls i : Nat} {k2 : qv_Mem → Option Unit} {r : Int32 → qv_Mem → Option Unit} {M : qv_Mem} (hI : Inv M) (hi : i + 5 ≤ Ls) (hL : Ls ≤ 2560) : ∃ M2, Inv M2 ∧ b_L_law_18 xs Ls k2 r (nI i) M = r (nI (i + 5)) M2 := by
  have a1 : nI i + 1 = nI (i + 1) := nI_add i 1
  have a2 : nI i + 2 = nI (i + 2) := nI_add i 2
  have a3 : nI i + 3 = nI (i + 3) := nI_add i 3
  have a4 : nI i + 4 = nI (i + 4) := nI_add i 4
  have a5 : nI i + 5 = nI (i + 5) := nI_add i 5
  have S0 : ∀ k : Int32 → Option Unit, qv_sc xs Ls (nI i) k = k (xs i) := zsx rfl (by omega) hL
  have S1 : ∀ k : Int32 → Option Unit, qv_sc xs Ls (nI i + 1) k = k (xs (i + 1)) := zsx a1 (by omega) hL
  have S2 : ∀ k : Int32 → Option Unit, qv_sc xs Ls (nI i + 2) k = k (xs (i + 2)) := zsx a2 (by omega) hL
  have S3 : ∀ k : Int32 → Option Unit, qv_sc xs Ls (nI i + 3) k = k (xs (i + 3)) := zsx a3 (by omega) hL
  have S4 : ∀ k : Int32 → Option Unit, qv_sc xs Ls (nI i + 4) k = k (xs (i + 4)) := zsx a4 (by omega) hL
  have hlt : ¬ (nI Ls - 5 < nI i) := by
    rw [zl5i, zi_sub (by omega) (by omega), zi_lt (by omega) (by omega)]
    omega
  have R5 : ∀ M2 : qv_Mem, r (nI i + 5) M2 = r (nI (i + 5)) M2 := fun M2 => by rw [a5]
  clear a1 a2 a3 a4 a5
  unfold b_L_law_18
  rw [if_neg hlt, S0]
  generalize xs i &&& 31 = o
  clear hlt S0
  rw [zjn]
  by_cases h0 : o = 0
  · obtain ⟨v, M1, M2, e1, e2, kk⟩ := s_one hI (xs (i + 1))
    rw [if_pos h0, S1, e1, zbp, S1, e2, zbp, if_pos rfl]
    exact ⟨M2, kk, R5 M2⟩
  rw [if_neg h0]
  by_cases h1 : o = 1
  · obtain ⟨v, M1, M2, e1, e2, kk⟩ := s_gate hI (xs (i + 1)) (xs (i + 2))
    rw [if_pos h1, S1, S2, e1, zbp, S1, S2, e2, zbp, if_pos rfl]
    exact ⟨M2, kk, R5 M2⟩
  rw [if_neg h1]
  by_cases h2 : o = 2
  · obtain ⟨v, M1, M2, e1, e2, kk⟩ := s_ahead hI (xs (i + 1)) (xs (i + 2))
    rw [if_pos h2, S1, S2, e1, zbp, S1, S2, e2, zbp, if_pos rfl]
    exact ⟨M2, kk, R5 M2⟩
  rw [if_neg h2]
  by_cases h3 : o = 3
  · obtain ⟨v, M1, M2, e1, e2, kk⟩ := s_times hI (xs (i + 1)) (xs (i + 2)) (xs (i + 3))
    rw [if_pos h3, S1, S2, S3, e1, zbp, S1, S2, S3, e2, zbp, if_pos rfl]
    exact ⟨M2, kk, R5 M2⟩
  rw [if_neg h3]
  by_cases h4 : o = 4
  · obtain ⟨v, M1, M2, e1, e2, kk⟩ := s_turn hI (xs (i + 1))
    rw [if_pos h4, S1, e1, zbp, S1, e2, zbp, if_pos rfl]
    exact ⟨M2, kk, R5 M2⟩
  rw [if_neg h4]
  by_cases h5 : o = 5
  · obtain ⟨v, e1, e2⟩ := s_part hI (xs (i + 1)) (xs (i + 2)) (xs (i + 3)) (xs (i + 4))
    rw [if_pos h5, S1, S2, S3, S4, e1, zbo, S1, S2, S3, S4, e2, zbo, if_pos ((lg_cmp_eq _ _).mpr rfl)]
    exact ⟨M, hI, R5 M⟩
  rw [if_neg h5]
  by_cases h6 : o = 6
  · obtain ⟨v, e1, e2⟩ := s_e hI (xs (i + 1))
    rw [if_pos h6, S1, e1, zbo, S1, e2, zbo, if_pos rfl]
    exact ⟨M, hI, R5 M⟩
  rw [if_neg h6]
  by_cases h7 : o = 7
  · obtain ⟨v, M1, M2, e1, e2, kk⟩ := s_phase hI (xs (i + 1)) (xs (i + 2))
    rw [if_pos h7, S1, S2, e1, zbp, S1, S2, e2, zbp, if_pos rfl]
    exact ⟨M2, kk, R5 M2⟩
  rw [if_neg h7]
  by_cases h8 : o = 8
  · obtain ⟨v, M1, M2, e1, e2, kk⟩ := s_channel hI (xs (i + 1)) (xs (i + 2)) (xs (i + 3)) (xs (i + 4))
    rw [if_pos h8, S1, S2, S3, S4, e1, zbp, S1, S2, S3, S4, e2, zbp, if_pos ((lg_cmp_eq _ _).mpr rfl)]
    exact ⟨M2, kk, R5 M2⟩
  rw [if_neg h8]
  by_cases h9 : o = 9
  · obtain ⟨v, M1, M2, e1, e2, kk⟩ := s_count hI (xs (i + 1))
    rw [if_pos h9, S1, e1, zbp, S1, e2, zbp, if_pos rfl]
    exact ⟨M2, kk, R5 M2⟩
  rw [if_neg h9]
  by_cases h10 : o = 10
  · obtain ⟨v, M1, e1, e2, kk⟩ := s_clifford hI (xs (i + 1))
    rw [if_pos h10, S1, e1, zbp, S1, e2, zbo, if_pos rfl]
    exact ⟨M1, kk, R5 M1⟩
  rw [if_neg h10]
  by_cases h11 : o = 11
  · obtain ⟨v, M1, M2, e1, e2, kk⟩ := s_take hI (xs (i + 1)) (xs (i + 2))
    rw [if_pos h11, S1, S2, e1, zbp, S1, S2, e2, zbp, if_pos rfl]
    exact ⟨M2, kk, R5 M2⟩
  rw [if_neg h11]
  by_cases h12 : o = 12
  · obtain ⟨v, M1, e1, e2, kk⟩ := s_leads hI (xs (i + 1)) (xs (i + 2))
    rw [if_pos h12, S1, S2, e1, zbp, S1, S2, e2, zbo, if_pos rfl]
    exact ⟨M1, kk, R5 M1⟩
  rw [if_neg h12]
  by_cases h13 : o = 13
  · obtain ⟨v, M1, M2, e1, e2, kk⟩ := s_price hI (xs (i + 1)) (xs (i + 2))
    rw [if_pos h13, S1, S2, e1, zbp, S1, S2, e2, zbp, if_pos rfl]
    exact ⟨M2, kk, R5 M2⟩
  rw [if_neg h13]
  by_cases h14 : o = 14
  · obtain ⟨v, M1, M2, e1, e2, kk⟩ := s_cheapest hI (xs (i + 1)) (xs (i + 2))
    rw [if_pos h14, S1, S2, e1, zbp, S1, S2, e2, zbp, if_pos rfl]
    exact ⟨M2, kk, R5 M2⟩
  rw [if_neg h14]
  by_cases h15 : o = 15
  · obtain ⟨v, M1, M2, e1, e2, kk⟩ := s_push hI (xs (i + 1)) (xs (i + 2))
    rw [if_pos h15, S1, S2, e1, zbp, S1, S2, e2, zbp, if_pos rfl]
    exact ⟨M2, kk, R5 M2⟩
  rw [if_neg h15]
  by_cases h16 : o = 16
  · obtain ⟨v, M1, M2, e1, e2, kk⟩ := s_pull hI (xs (i + 1))
    rw [if_pos h16, S1, e1, zbp, S1, e2, zbp, if_pos rfl]
    exact ⟨M2, kk, R5 M2⟩
  rw [if_neg h16]
  by_cases h17 : o = 17
  · obtain ⟨v, e1, e2⟩ := s_word hI (xs (i + 1)) (xs (i + 2))
    rw [if_pos h17, S1, S2, e1, zbo, S1, S2, e2, zbo, if_pos rfl]
    exact ⟨M, hI, R5 M⟩
  rw [if_neg h17]
  by_cases h18 : o = 18
  · obtain ⟨v, M1, M2, e1, e2, kk⟩ := s_value hI (xs (i + 1)) (xs (i + 2))
    rw [if_pos h18, S1, S2, e1, zbp, S1, S2, e2, zbp, if_pos rfl]
    exact ⟨M2, kk, R5 M2⟩
  rw [if_neg h18]
  by_cases h19 : o = 19
  · obtain ⟨v, M1, M2, e1, e2, kk⟩ := s_shorter hI (xs (i + 1))
    rw [if_pos h19, S1, e1, zbp, S1, e2, zbp, if_pos rfl]
    exact ⟨M2, kk, R5 M2⟩
  rw [if_neg h19]
  by_cases h20 : o = 20
  · obtain ⟨v, M1, M2, e1, e2, kk⟩ := s_normal hI (xs (i + 1)) (xs (i + 2))
    rw [if_pos h20, S1, S2, e1, zbp, S1, S2, e2, zbp, if_pos rfl]
    exact ⟨M2, kk, R5 M2⟩
  rw [if_neg h20]
  by_cases h21 : o = 21
  · obtain ⟨v, M1, M2, e1, e2, kk⟩ := s_fits hI (xs (i + 1)) (xs (i + 2)) (xs (i + 3))
    rw [if_pos h21, S1, S2, S3, e1, zbp, S1, S2, S3, e2, zbp, if_pos rfl]
    exact ⟨M2, kk, R5 M2⟩
  rw [if_neg h21]
  by_cases h22 : o = 22
  · obtain ⟨v, M1, M2, e1, e2, kk⟩ := s_parts hI (xs (i + 1)) (xs (i + 2))
    rw [if_pos h22, S1, S2, e1, zbp, S1, S2, e2, zbp, if_pos rfl]
    exact ⟨M2, kk, R5 M2⟩
  rw [if_neg h22]
  by_cases h23 : o = 23
  · obtain ⟨v, M1, M2, e1, e2, kk⟩ := s_undo hI
    rw [if_pos h23, e1, zbp, e2, zbp, if_pos rfl]
    exact ⟨M2, kk, R5 M2⟩
  rw [if_neg h23]
  by_cases h24 : o = 24
  · obtain ⟨v, M1, M2, e1, e2, kk⟩ := s_feed hI (xs (i + 1))
    rw [if_pos h24, S1, e1, zbp, S1, e2, zbp, if_pos rfl]
    exact ⟨M2, kk, R5 M2⟩
  rw [if_neg h24]
  by_cases h25 : o = 25
  · obtain ⟨v, M1, M2, e1, e2, kk⟩ := s_wipe hI
    rw [if_pos h25, e1, zbp, e2, zbp, if_pos rfl]
    exact ⟨M2, kk, R5 M2⟩
  rw [if_neg h25]
  by_cases h26 : o = 26
  · obtain ⟨v, M1, M2, e1, e2, kk⟩ := s_write hI (xs (i + 1))
    rw [if_pos h26, S1, e1, zbp, S1, e2, zbp, if_pos rfl]
    exact ⟨M2, kk, R5 M2⟩
  rw [if_neg h26]
  by_cases h27 : o = 27
  · obtain ⟨v, M1, M2, e1, e2, kk⟩ := s_image hI
    rw [if_pos h27, e1, zbp, e2, zbp, if_pos rfl]
    exact ⟨M2, kk, R5 M2⟩
  rw [if_neg h27]
  by_cases h28 : o = 28
  · obtain ⟨v, M1, M2, e1, e2, kk⟩ := s_restore hI
    rw [if_pos h28, e1, zbp, e2, zbp, if_pos rfl]
    exact ⟨M2, kk, R5 M2⟩
  rw [if_neg h28]
  by_cases h29 : o = 29
  · obtain ⟨v, e1, e2⟩ := s_told hI (xs (i + 1))
    rw [if_pos h29, S1, e1, zbo, S1, e2, zbo, if_pos rfl]
    exact ⟨M, hI, R5 M⟩
  rw [if_neg h29]
  exact ⟨M, hI, R5 M⟩
theorem law_end {xs : Nat → Int32} {Ls i : Nat} {k2 : qv_Mem → Option Unit} {r : Int32 → qv_Mem → Option Unit} {M : qv_Mem} (hi : Ls < i + 5) (h5 : i % 5 = 0) (hle : i ≤ Ls) (hL : Ls ≤ 2560) : b_L_law_18 xs Ls k2 r (nI i) M = k2 M := by
  have hlt : nI Ls - 5 < nI i := by
    by_cases h : Ls < 5
    · have : i = 0 := by omega
      rw [this]
      exact zlw5 Ls h
    · rw [zl5i, zi_sub (by omega) (by omega), zi_lt (by omega) (by omega)]
      omega
  unfold b_L_law_18
  rw [if_pos hlt]
theorem law_all {xs : Nat → Int32} {Ls : Nat} {M : qv_Mem} (hI : Inv M) (hL : Ls ≤ 2560) : f_law xs Ls M = some () := by
  unfold f_law
  rw [zjn]
  refine qv_W2 (fun n a b => ∃ i, a = nI i ∧ i % 5 = 0 ∧ i ≤ Ls ∧ n = Ls - i ∧ Inv b) (fun o => o = some ()) (fun n a b r h => ?_) qv_N Ls 0 M ⟨0, zi_0, by omega, by omega, by omega, hI⟩ (qv_N_gt _ (by omega))
  obtain ⟨i, rfl, h5, hle, rfl, hb⟩ := h
  by_cases hi : i + 5 ≤ Ls
  · obtain ⟨M2, k, e⟩ := law_step (k2 := fun _ => some ()) (r := r) (xs := xs) hb hi hL
    exact Or.inr ⟨Ls - (i + 5), nI (i + 5), M2, by omega, ⟨i + 5, rfl, by omega, hi, rfl, k⟩, e⟩
  · exact Or.inl (law_end (by omega) h5 hle hL)
