/-! The reference's calls upon words: push, pull, shorter. -/
theorem yW.o {M M1 : qv_Mem} {W : Nat → List Nat} (h : yW M W) (k : yow M M1) : yW M1 W := by
  unfold yW
  rw [k.2.1 112 (by omega), k.2.1 113 (by omega)]
  exact h
theorem yH.o {M M1 : qv_Mem} {Hs : List (Nat × List Nat)} (h : yH M Hs) (k : yow M M1) : yH M1 Hs := by
  unfold yH
  rw [k.2.1 125 (by omega), k.2.1 124 (by omega), k.2.1 123 (by omega), k.2.2 106 22 (by omega)]
  exact h
theorem yR_snoc {M : qv_Mem} {l : List Nat} (h : yR M l) (hl : l.length < 590) (g : Nat) : yR (qv_upS (qv_upI M 122 l.length (nI g)) 106 18 (nI (l.length + 1))) (l ++ [g]) := by
  rw [zgi_u1]
  refine yR_mk (by rw [List.length_append]; rfl) (by omega) (fun i hi => ?_)
  unfold zui
  by_cases hi2 : i = l.length
  · rw [if_pos hi2, hi2]
    simp [List.getD_eq_getElem?_getD]
  · rw [if_neg hi2, h.2.2 i (by omega)]
    simp [List.getD_eq_getElem?_getD, List.getElem?_append, show i < l.length by omega]
theorem y_push {M : qv_Mem} {W : Nat → List Nat} {Hs : List (Nat × List Nat)} (hW : yW M W) (hk : zWk W) (hH : yH M Hs) (hHk : zHk Hs) (p q : Int32) : ∃ M1, f_X10_push qv_TT 106 p q M = some ((a_push W Hs p q).1, M1) ∧ yW M1 (a_push W Hs p q).2.1 ∧ yH M1 (a_push W Hs p q).2.2 ∧ yfr M M1 := by
  unfold f_X10_push a_push
  rcases zr_in p 3 with ⟨w, hw, w2, rfl⟩ | h
  · rcases zr_in q 7 with ⟨g, hg, g2, rfl⟩ | h'
    · have h60 := (hk w hw).1
      rw [y_isWord hw, zbo, if_neg zl1n0, y_isGate hg, zbo, if_neg zl1n0, if_neg (fun q => q.elim (zr_n hw w2) (zr_n hg g2)), zi_cl w2, zi_cl g2, zt_size, zi_ldI hw (by omega), (hW w hw).1]
      by_cases hl : (W w).length = 60
      · rw [if_pos (by rw [hl]; rfl), if_pos hl]
        exact ⟨M, rfl, hW, hH, yfr.rf _⟩
      · rw [if_neg (by rw [zl60]; exact fun q => hl ((nI_eq (by omega) (by omega)).mp q)), if_neg hl]
        obtain ⟨M1, e1, h1, k1⟩ := y_takes hW hw
        rw [e1, zbo, zgS, h1.1, zt_row, zi_stI (by omega) (by omega), zgS]
        have e18 : (qv_upI M1 122 (W w).length (nI g)).2.2 106 18 = nI (W w).length := h1.1
        rw [e18, zpS, nI_1]
        have k2 : yow M (qv_upS (qv_upI M1 122 (W w).length (nI g)) 106 18 (nI ((W w).length + 1))) := (k1.tr (yow_u _ _ _)).tr (yow_S _ _)
        have h2 := yR_snoc h1 (by omega) g
        obtain ⟨M3, e3, h3, h4, k3⟩ := y_becomes (hW.o k2) hk (hH.o k2) hHk hw h2 (by rw [List.length_append, List.length_singleton]; omega) (g_snoc (hk w hw).2 hg)
        rw [e3, zbp]
        exact ⟨M3, rfl, h3, h4, k2.yf.tr k3⟩
    · rw [y_isWord hw, zbo, if_neg zl1n0, y_isGate0 h', zbo, if_pos rfl, if_pos (Or.inr h')]
      exact ⟨M, rfl, hW, hH, yfr.rf _⟩
  · rw [y_isWord0 h, zbo, if_pos rfl, if_pos (Or.inl h)]
    exact ⟨M, rfl, hW, hH, yfr.rf _⟩
theorem yR_cutl {M : qv_Mem} {l : List Nat} (h : yR M l) : yR (qv_upS M 106 18 (nI (l.length - 1))) (a_cutl l) := by
  have h6 := h.2.1
  have e : a_cutl l = l.take (l.length - 1) := by
    unfold a_cutl
    rw [List.drop_eq_nil_of_le (by omega), List.append_nil]
  have el : (a_cutl l).length = l.length - 1 := by rw [e, List.length_take]; omega
  refine ⟨by rw [zs_at, el], by omega, fun i hi => ?_⟩
  rw [el] at hi
  show M.1 122 i = _
  rw [h.2.2 i (by omega), e]
  simp only [List.getD_eq_getElem?_getD, List.getElem?_take]
  rw [if_pos hi]
theorem y_pull {M : qv_Mem} {W : Nat → List Nat} {Hs : List (Nat × List Nat)} (hW : yW M W) (hk : zWk W) (hH : yH M Hs) (hHk : zHk Hs) (p : Int32) : ∃ M1, f_X10_pull qv_TT 106 p M = some ((a_pull W Hs p).1, M1) ∧ yW M1 (a_pull W Hs p).2.1 ∧ yH M1 (a_pull W Hs p).2.2 ∧ yfr M M1 := by
  unfold f_X10_pull a_pull
  rcases zr_in p 3 with ⟨w, hw, w2, rfl⟩ | h
  · have h60 := (hk w hw).1
    rw [y_isWord hw, zbo, if_neg zl1n0, if_neg (zr_n hw w2), zi_cl w2, zt_size, zi_ldI hw (by omega), (hW w hw).1]
    by_cases hl : (W w).length = 0
    · rw [if_pos (by rw [hl]; rfl), if_pos hl]
      exact ⟨M, rfl, hW, hH, yfr.rf _⟩
    · rw [if_neg (nI_ne0 (by omega) (by omega)), if_neg hl]
      obtain ⟨M1, e1, h1, k1⟩ := y_takes hW hw
      have e : nI (W w).length - 1 = nI ((W w).length - 1) := by rw [zl1i, zi_sub (by omega) (by omega)]
      rw [e1, zbo, zgS, h1.1, zpS, e, zgS, zs_at, zt_row, zi_ldI (by omega) (by omega)]
      have k2 : yow M (qv_upS M1 106 18 (nI ((W w).length - 1))) := k1.tr (yow_S _ _)
      have h2 := yR_cutl h1
      have ll : (a_cutl (W w)).length ≤ 60 := by
        unfold a_cutl
        simp only [List.length_append, List.length_take, List.length_drop]
        omega
      obtain ⟨M3, e3, h3, h4, k3⟩ := y_becomes (hW.o k2) hk (hH.o k2) hHk hw h2 ll (s_mem_cut (hk w hw).2)
      have ev : (qv_upS M1 106 18 (nI ((W w).length - 1))).1 122 ((W w).length - 1) = nI ((W w).getD ((W w).length - 1) 0) := h1.2.2 _ (by omega)
      rw [e3, zbp, ev]
      exact ⟨M3, rfl, h3, h4, k2.yf.tr k3⟩
  · rw [y_isWord0 h, zbo, if_pos rfl, if_pos h]
    exact ⟨M, rfl, hW, hH, yfr.rf _⟩
theorem y_shorter {M : qv_Mem} {W : Nat → List Nat} {Hs : List (Nat × List Nat)} (hW : yW M W) (hk : zWk W) (hH : yH M Hs) (hHk : zHk Hs) (p : Int32) : ∃ M1, f_X10_shorter qv_TT 106 p M = some ((a_shorter W Hs p).1, M1) ∧ yW M1 (a_shorter W Hs p).2.1 ∧ yH M1 (a_shorter W Hs p).2.2 ∧ yfr M M1 := by
  unfold f_X10_shorter a_shorter
  rcases zr_in p 3 with ⟨w, hw, w2, rfl⟩ | h
  · have h60 := (hk w hw).1
    rw [y_isWord hw, zbo, if_neg zl1n0, if_neg (zr_n hw w2), zi_cl w2]
    obtain ⟨M1, e1, h1, k1⟩ := y_takes hW hw
    rw [e1, zbo, zjn, zi_0]
    obtain ⟨M2, e2, h2, k2⟩ := y_sh_lp (fun M3 => qv_bp (f_X10_becomes qv_TT 106 (nI w) M3) (fun v5 M6 => some (v5, M6))) qv_N 120 0 M1 (W w) h1 (hk w hw).2 h60 (s_mu_le _ h60) (Nat.zero_le _) (fun j hj => by omega) (qv_N_gt _ (by omega))
    rw [e2]
    have k3 := k1.tr k2
    obtain ⟨M3, e3, h3, h4, k4⟩ := y_becomes (hW.o k3) hk (hH.o k3) hHk hw h2 (Nat.le_trans (s_run_len _ _) h60) (s_run_lt _ _ (hk w hw).2)
    rw [e3, zbp]
    exact ⟨M3, rfl, h3, h4, k3.yf.tr k4⟩
  · rw [y_isWord0 h, zbo, if_pos rfl, if_pos h]
    exact ⟨M, rfl, hW, hH, yfr.rf _⟩
theorem a_push_k {W : Nat → List Nat} {Hs : List (Nat × List Nat)} (hk : zWk W) (hH : zHk Hs) (p q : Int32) : zWk (a_push W Hs p q).2.1 ∧ zHk (a_push W Hs p q).2.2 := by
  unfold a_push
  rcases zr_in p 3 with ⟨w, hw, w2, rfl⟩ | h
  · rcases zr_in q 7 with ⟨g, hg, g2, rfl⟩ | h'
    · rw [if_neg (fun q => q.elim (zr_n hw w2) (zr_n hg g2)), zi_cl w2, zi_cl g2]
      have h60 := (hk w hw).1
      split
      · exact ⟨hk, hH⟩
      · exact a_bec_k hk hH hw (by rw [List.length_append, List.length_singleton]; omega) (g_snoc (hk w hw).2 hg)
    · rw [if_pos (Or.inr h')]
      exact ⟨hk, hH⟩
  · rw [if_pos (Or.inl h)]
    exact ⟨hk, hH⟩
theorem a_pull_k {W : Nat → List Nat} {Hs : List (Nat × List Nat)} (hk : zWk W) (hH : zHk Hs) (p : Int32) : zWk (a_pull W Hs p).2.1 ∧ zHk (a_pull W Hs p).2.2 := by
  unfold a_pull
  rcases zr_in p 3 with ⟨w, hw, w2, rfl⟩ | h
  · rw [if_neg (zr_n hw w2), zi_cl w2]
    have h60 := (hk w hw).1
    split
    · exact ⟨hk, hH⟩
    · refine a_bec_k hk hH hw ?_ (s_mem_cut (hk w hw).2)
      unfold a_cutl
      simp only [List.length_append, List.length_take, List.length_drop]
      omega
  · rw [if_pos h]
    exact ⟨hk, hH⟩
theorem a_shorter_k {W : Nat → List Nat} {Hs : List (Nat × List Nat)} (hk : zWk W) (hH : zHk Hs) (p : Int32) : zWk (a_shorter W Hs p).2.1 ∧ zHk (a_shorter W Hs p).2.2 := by
  unfold a_shorter
  rcases zr_in p 3 with ⟨w, hw, w2, rfl⟩ | h
  · rw [if_neg (zr_n hw w2), zi_cl w2]
    exact a_bec_k hk hH hw (Nat.le_trans (s_run_len _ _) (hk w hw).1) (s_run_lt _ _ (hk w hw).2)
  · rw [if_pos h]
    exact ⟨hk, hH⟩
