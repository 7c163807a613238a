/-! phase -/
noncomputable def a_ph (B : zq_T) : Nat → Nat → zq_T → Int32
  | 0, _, _ => -2
  | n + 1, j, A => @ite Int32 (A = B) (Classical.propDecidable _) (nI j) (a_ph B n (j + 1) (zq_lm (zq_gt 5) A))
noncomputable def a_phase (R : Nat → zq_T) (p q : Int32) : Int32 := if zr p 4 ∨ zr q 4 then -1 else a_ph (R p.toNatClampNeg) 8 0 (R q.toNatClampNeg)
theorem zl8i : (8 : Int32) = nI 8 := id rfl
theorem zl5i : (5 : Int32) = nI 5 := id rfl
theorem zW_e {A : zq_T} (h : zq_ls A) : (zq_lm (zq_gt 5) A).2 = A.2 := by rw [(zg_lm h (g := 5) (by omega) (by omega)).2]
theorem x_ph {R : Nat → zq_T} (hR : zRk R) {r : Nat} (hr : r < 4) (n : Nat) : ∀ (j : Nat) (A : zq_T) (M : qv_Mem) (f : Nat), j + n = 8 → n < f → zCR M R → zT M 98 99 A → zq_ok A → A.2 ≤ 40 → ∃ M1, qv_lp2 (b_X9_phase_34 0 (nI r) qv_TT (fun M5 => some ((-2), M5))) f (nI j) M = some (a_ph (R r) n j A, M1) ∧ zCR M1 R ∧ zfr zSR M M1 := by
  induction n with
  | zero =>
    intro j A M f hj hf hC hw hA eA
    obtain ⟨f, rfl⟩ : ∃ g, f = g + 1 := ⟨f - 1, by omega⟩
    rw [zN2]
    generalize hrr : qv_lp2 (b_X9_phase_34 0 (nI r) qv_TT (fun M5 => some ((-2), M5))) f = rr
    unfold b_X9_phase_34
    rw [zl8i, if_pos (show nI 8 ≤ nI j from nI_le (by omega) (by omega))]
    exact ⟨M, rfl, hC, zfr.rf _ _⟩
  | succ n ih =>
    intro j A M f hj hf hC hw hA eA
    obtain ⟨f, rfl⟩ : ∃ g, f = g + 1 := ⟨f - 1, by omega⟩
    have e40 := (hR r hr).2
    have hs := z_isSame zt_wk (zt_rl hr) hw (hC r hr) (zb_le (hA.bd 20 (by omega)) (by decide)) (zb_le (hR.bd hr) (by decide)) (by omega) (by omega)
    rw [zN2]
    generalize hrr : qv_lp2 (b_X9_phase_34 0 (nI r) qv_TT (fun M5 => some ((-2), M5))) f = rr
    unfold b_X9_phase_34
    rw [zl8i, if_neg (zi_nle (a := 8) (b := j) (by omega) (by omega)), zi_in hr (by omega), zgd, zt_work, zt_r hr]
    unfold a_ph
    by_cases he : A = R r
    · rw [hs.1 he, zbo, if_neg zl1n0, if_pos he]
      exact ⟨M, rfl, hC, zfr.rf _ _⟩
    · rw [hs.2 he, zbo, if_pos rfl, if_neg he, zl5i]
      obtain ⟨M2, e2, h3, k2⟩ := z_ahead (t := 98) zt_wk hw hA.ls (zb_le (hA.bd 20 (by omega)) (by decide)) (by omega) (g := 5) (by omega)
      rw [e2, zbo, nI_1]
      obtain ⟨M3, e3, h4, k3⟩ := ih (j + 1) _ M2 f (by omega) (by omega) (hC.wk k2) h3 ((zq_ok.gt1 (by omega)).mul hA) (by rw [zW_e hA.ls]; exact eA)
      rw [← hrr]
      exact ⟨M3, e3, h4, (zSR_w k2).tr k3⟩
theorem x_phase {M : qv_Mem} {R : Nat → zq_T} (hC : zCR M R) (hR : zRk R) (p q : Int32) : ∃ M1, f_X9_phase qv_TT 0 p q M = some (a_phase R p q, M1) ∧ zCR M1 R ∧ zfr zSR M M1 := by
  unfold f_X9_phase a_phase
  rcases zr_in p 4 with ⟨r, hr, h2, rfl⟩ | h
  · rcases zr_in q 4 with ⟨g, hg, g2, rfl⟩ | h'
    · rw [x_isReg hr, zbo, if_neg zl1n0, x_isReg hg, zbo, if_neg zl1n0, if_neg (fun q => q.elim (zr_n hr h2) (zr_n hg g2)), zi_in hg (by omega), zgd, zt_r hg, zt_work, zi_cl h2, zi_cl g2]
      obtain ⟨M1, e1, h1, k1⟩ := z_makeCopy (t := 98) zt_wk (zt_rl hg) (hC g hg)
      rw [e1, zbo, zjn]
      obtain ⟨M3, e3, h4, k3⟩ := x_ph hR hr 8 0 _ M1 qv_N rfl (qv_N_gt 8 (by omega)) (hC.wk k1) h1 (hR g hg).1 (hR g hg).2
      exact ⟨M3, e3, h4, (zSR_w k1).tr k3⟩
    · rw [x_isReg hr, zbo, if_neg zl1n0, x_isReg0 h', zbo, if_pos rfl, if_pos (Or.inr h')]
      exact ⟨M, rfl, hC, zfr.rf _ _⟩
  · rw [x_isReg0 h, zbo, if_pos rfl, if_pos (Or.inl h)]
    exact ⟨M, rfl, hC, zfr.rf _ _⟩
theorem zl9i : (9 : Int32) = nI 9 := id rfl
theorem y_ph {R : Nat → zq_T} (hR : zRk R) {r : Nat} (hr : r < 4) (n : Nat) : ∀ (j : Nat) (A : zq_T) (M : qv_Mem) (f : Nat), j + n = 8 → n < f → zMR M R → zMC M → zS M 107 15 A → zq_ok A → A.2 ≤ 40 → ∃ M1, qv_lp2 (b_X10_phase_25 106 (nI r) qv_TT (fun M5 => some ((-2), M5))) f (nI j) M = some (a_ph (R r) n j A, M1) ∧ zMR M1 R ∧ zMC M1 ∧ zfr zSM M M1 := by
  induction n with
  | zero =>
    intro j A M f hj hf hC hK hw hA eA
    obtain ⟨f, rfl⟩ : ∃ g, f = g + 1 := ⟨f - 1, by omega⟩
    rw [zN2]
    generalize hrr : qv_lp2 (b_X10_phase_25 106 (nI r) qv_TT (fun M5 => some ((-2), M5))) f = rr
    unfold b_X10_phase_25
    rw [zl8i, if_pos (show nI 8 ≤ nI j from nI_le (by omega) (by omega))]
    exact ⟨M, rfl, hC, hK, zfr.rf _ _⟩
  | succ n ih =>
    intro j A M f hj hf hC hK hw hA eA
    obtain ⟨f, rfl⟩ : ∃ g, f = g + 1 := ⟨f - 1, by omega⟩
    have e40 := (hR r hr).2
    have hs := y_areSame zt_tab (a := 15) (b := r) (by omega) (by omega) hw (hC r hr) (zb_le (hA.bd 20 (by omega)) (by decide)) (zb_le (hR.bd hr) (by decide)) (by omega) (by omega)
    rw [zN2]
    generalize hrr : qv_lp2 (b_X10_phase_25 106 (nI r) qv_TT (fun M5 => some ((-2), M5))) f = rr
    unfold b_X10_phase_25
    rw [zl8i, if_neg (zi_nle (a := 8) (b := j) (by omega) (by omega)), zl15, zl9i]
    unfold a_ph
    by_cases he : A = R r
    · rw [hs.1 he, zbo, if_neg zl1n0, if_pos he]
      exact ⟨M, rfl, hC, hK, zfr.rf _ _⟩
    · rw [hs.2 he, zbo, if_pos rfl, if_neg he]
      obtain ⟨M2, e2, h3, k2⟩ := y_product zt_tab (c := 15) (a := 9) (b := 15) (by omega) (by omega) (by omega) (hK.1 5 (by omega)) hw (by decide) (by omega) (zb_le (zb_pm (zgt_bd (g := 5) (by omega)) (hA.bd 20 (by omega))) (by decide))
      rw [e2, zbo, nI_1]
      obtain ⟨M3, e3, h4, h5, k3⟩ := ih (j + 1) _ M2 f (by omega) (by omega) (hC.kept k2 (fun s _ => by omega)) (hK.kept k2 (fun s _ _ => by omega)) h3 ((zq_ok.gt1 (by omega)).mul hA) (by rw [zW_e hA.ls]; exact eA)
      rw [← hrr]
      exact ⟨M3, e3, h4, h5, zfr.tr k2.fr k3⟩
theorem y_phase {M : qv_Mem} {R : Nat → zq_T} (hC : zMR M R) (hK : zMC M) (hR : zRk R) (p q : Int32) : ∃ M1, f_X10_phase qv_TT 106 p q M = some (a_phase R p q, M1) ∧ zMR M1 R ∧ zMC M1 ∧ zfr zSM M M1 := by
  unfold f_X10_phase a_phase
  rcases zr_in p 4 with ⟨r, hr, h2, rfl⟩ | h
  · rcases zr_in q 4 with ⟨g, hg, g2, rfl⟩ | h'
    · rw [y_isReg hr, zbo, if_neg zl1n0, y_isReg hg, zbo, if_neg zl1n0, if_neg (fun q => q.elim (zr_n hr h2) (zr_n hg g2)), zi_cl h2, zi_cl g2, zl15]
      obtain ⟨M1, e1, h1, k1⟩ := y_copies1 zt_tab M (a := g) (b := 15) (by omega) (by omega) (hC g hg)
      rw [e1, zbo, zjn]
      obtain ⟨M3, e3, h4, h5, k3⟩ := y_ph hR hr 8 0 _ M1 qv_N rfl (qv_N_gt 8 (by omega)) (hC.kept k1 (fun s _ => by omega)) (hK.kept k1 (fun s _ _ => by omega)) h1 (hR g hg).1 (hR g hg).2
      exact ⟨M3, e3, h4, h5, zfr.tr k1.fr k3⟩
    · rw [y_isReg hr, zbo, if_neg zl1n0, y_isReg0 h', zbo, if_pos rfl, if_pos (Or.inr h')]
      exact ⟨M, rfl, hC, hK, zfr.rf _ _⟩
  · rw [y_isReg0 h, zbo, if_pos rfl, if_pos (Or.inl h)]
    exact ⟨M, rfl, hC, hK, zfr.rf _ _⟩
