/-! gate, ahead, times, turn, part, e -/
theorem zl1n0 : ¬ (1 : Int32) = 0 := by decide
theorem zl_4a (g : Nat) : (4 : Int32) + nI g = nI (4 + g) := nI_add 4 g
theorem zgt_bd {g : Nat} (h : g < 7) : zb (zq_gt g).1 1 := by
  have hh := zq_ok.gt1 h
  match g, h with
  | 0, _ => exact zb_mk (by decide) (by decide) (by decide) (by decide)
  | 1, _ => exact zb_mk (by decide) (by decide) (by decide) (by decide)
  | 2, _ => exact zb_mk (by decide) (by decide) (by decide) (by decide)
  | 3, _ => exact zb_mk (by decide) (by decide) (by decide) (by decide)
  | 4, _ => exact zb_mk (by decide) (by decide) (by decide) (by decide)
  | 5, _ => exact zb_mk (by decide) (by decide) (by decide) (by decide)
  | 6, _ => exact zb_mk (by decide) (by decide) (by decide) (by decide)
  | g + 7, h => omega
theorem zgt_e {g : Nat} (h : g < 7) : (zq_gt g).2 ≤ 1 := by
  match g, h with
  | 0, _ => exact Nat.le_refl 1
  | 1, _ => exact Nat.zero_le 1
  | 2, _ => exact Nat.zero_le 1
  | 3, _ => exact Nat.zero_le 1
  | 4, _ => exact Nat.zero_le 1
  | 5, _ => exact Nat.zero_le 1
  | 6, _ => exact Nat.zero_le 1
  | g + 7, h => omega
theorem zlm_e (A B : zq_T) : (zq_lm A B).2 ≤ A.2 + B.2 := by
  obtain ⟨n, -, h2⟩ := zq_low_up (zq_pm A B)
  have h3 : (zq_pm A B).2 = A.2 + B.2 := rfl
  show (zq_low (zq_pm A B)).2 ≤ A.2 + B.2
  omega
theorem zSR_w {M M1 : qv_Mem} (k : zo M M1 98 99) : zfr zSR M M1 := k.fr.mono (fun a ha => by unfold zSR; omega)
theorem zCR.wk {M M1 : qv_Mem} {R : Nat → zq_T} (h : zCR M R) (k : zo M M1 98 99) : zCR M1 R := h.fr k.fr (fun a _ _ => by omega)

def a_gate (R : Nat → zq_T) (p q : Int32) : Int32 × (Nat → zq_T) := if zr p 4 ∨ zr q 7 then (-1, R) else a_settle R p.toNatClampNeg (zq_lm (R p.toNatClampNeg) (zq_gt q.toNatClampNeg))
theorem a_gate_k {R : Nat → zq_T} (hR : zRk R) (p q : Int32) : zRk (a_gate R p q).2 := by
  unfold a_gate
  rcases zr_in p 4 with ⟨r, hr, h2, rfl⟩ | h
  · rcases zr_in q 7 with ⟨g, hg, g2, rfl⟩ | h'
    · rw [if_neg (fun q => q.elim (zr_n hr h2) (zr_n hg g2)), zi_cl h2, zi_cl g2]
      exact hR.settle ((hR r hr).1.mul (zq_ok.gt1 hg))
    · rw [if_pos (Or.inr h')]
      exact hR
  · rw [if_pos (Or.inl h)]
    exact hR
theorem x_gate {M : qv_Mem} {R : Nat → zq_T} (hC : zCR M R) (hR : zRk R) (p q : Int32) : ∃ M1, f_X9_gate qv_TT 0 p q M = some ((a_gate R p q).1, M1) ∧ zCR M1 (a_gate R p q).2 ∧ zfr zSR M M1 := by
  unfold f_X9_gate a_gate
  rcases zr_in p 4 with ⟨r, hr, h2, rfl⟩ | h
  · rcases zr_in q 7 with ⟨g, hg, g2, rfl⟩ | h'
    · have e40 := (hR r hr).2
      have eg := zgt_e hg
      rw [x_isReg hr, zbo, if_neg zl1n0, x_isGate hg, zbo, if_neg zl1n0, if_neg (fun q => q.elim (zr_n hr h2) (zr_n hg g2)), zi_in hr (by omega), zgd, zt_r hr, zt_work, zi_cl h2, zi_cl g2]
      obtain ⟨M1, e1, h1, k1⟩ := z_makeCopy (t := 98) zt_wk (zt_rl hr) (hC r hr)
      rw [e1, zbo]
      obtain ⟨M2, e2, h3, k2⟩ := z_behind (t := 98) zt_wk h1 (hR r hr).1.ls (zb_le (hR.bd hr) (by omega)) (by omega) hg
      rw [e2, zbo]
      have hC2 : zCR M2 R := (hC.wk k1).wk k2
      have e3 := zlm_e (R r) (zq_gt g)
      obtain ⟨M3, e4, h4, k3⟩ := x_settle hC2 hr h3 (by omega)
      rw [e4, zbp]
      exact ⟨M3, rfl, h4, ((zSR_w k1).tr (zSR_w k2)).tr k3⟩
    · rw [x_isReg hr, zbo, if_neg zl1n0, x_isGate0 h', zbo, if_pos rfl, if_pos (Or.inr h')]
      exact ⟨M, rfl, hC, zfr.rf _ _⟩
  · rw [x_isReg0 h, zbo, if_pos rfl, if_pos (Or.inl h)]
    exact ⟨M, rfl, hC, zfr.rf _ _⟩
theorem y_gate {M : qv_Mem} {R : Nat → zq_T} (hC : zMR M R) (hK : zMC M) (hR : zRk R) (p q : Int32) : ∃ M1, f_X10_gate qv_TT 106 p q M = some ((a_gate R p q).1, M1) ∧ zMR M1 (a_gate R p q).2 ∧ zMC M1 ∧ zfr zSM M M1 := by
  unfold f_X10_gate a_gate
  rcases zr_in p 4 with ⟨r, hr, h2, rfl⟩ | h
  · rcases zr_in q 7 with ⟨g, hg, g2, rfl⟩ | h'
    · have e40 := (hR r hr).2
      have eg := zgt_e hg
      rw [y_isReg hr, zbo, if_neg zl1n0, y_isGate hg, zbo, if_neg zl1n0, if_neg (fun q => q.elim (zr_n hr h2) (zr_n hg g2)), zi_cl h2, zi_cl g2, zl15, zl_4a]
      obtain ⟨M1, e1, h1, k1⟩ := y_product zt_tab (c := 15) (by omega) (by omega) (by omega) (hC r hr) (hK.1 g hg) (by omega) (by omega) (zb_le (zb_pm (hR.bd hr) (zgt_bd hg)) (by decide))
      rw [e1, zbo]
      have e3 := zlm_e (R r) (zq_gt g)
      obtain ⟨M3, e4, h4, h5, k3⟩ := y_settle (hC.kept k1 (fun s _ => by omega)) (hK.kept k1 (fun s _ _ => by omega)) hr h1 (by omega)
      rw [e4, zbp]
      exact ⟨M3, rfl, h4, h5, zfr.tr k1.fr k3⟩
    · rw [y_isReg hr, zbo, if_neg zl1n0, y_isGate0 h', zbo, if_pos rfl, if_pos (Or.inr h')]
      exact ⟨M, rfl, hC, hK, zfr.rf _ _⟩
  · rw [y_isReg0 h, zbo, if_pos rfl, if_pos (Or.inl h)]
    exact ⟨M, rfl, hC, hK, zfr.rf _ _⟩
def a_ahead (R : Nat → zq_T) (p q : Int32) : Int32 × (Nat → zq_T) := if zr p 4 ∨ zr q 7 then (-1, R) else a_settle R p.toNatClampNeg (zq_lm (zq_gt q.toNatClampNeg) (R p.toNatClampNeg))
theorem a_ahead_k {R : Nat → zq_T} (hR : zRk R) (p q : Int32) : zRk (a_ahead R p q).2 := by
  unfold a_ahead
  rcases zr_in p 4 with ⟨r, hr, h2, rfl⟩ | h
  · rcases zr_in q 7 with ⟨g, hg, g2, rfl⟩ | h'
    · rw [if_neg (fun q => q.elim (zr_n hr h2) (zr_n hg g2)), zi_cl h2, zi_cl g2]
      exact hR.settle ((zq_ok.gt1 hg).mul (hR r hr).1)
    · rw [if_pos (Or.inr h')]
      exact hR
  · rw [if_pos (Or.inl h)]
    exact hR
theorem x_ahead {M : qv_Mem} {R : Nat → zq_T} (hC : zCR M R) (hR : zRk R) (p q : Int32) : ∃ M1, f_X9_ahead qv_TT 0 p q M = some ((a_ahead R p q).1, M1) ∧ zCR M1 (a_ahead R p q).2 ∧ zfr zSR M M1 := by
  unfold f_X9_ahead a_ahead
  rcases zr_in p 4 with ⟨r, hr, h2, rfl⟩ | h
  · rcases zr_in q 7 with ⟨g, hg, g2, rfl⟩ | h'
    · have e40 := (hR r hr).2
      have eg := zgt_e hg
      rw [x_isReg hr, zbo, if_neg zl1n0, x_isGate hg, zbo, if_neg zl1n0, if_neg (fun q => q.elim (zr_n hr h2) (zr_n hg g2)), zi_in hr (by omega), zgd, zt_r hr, zt_work, zi_cl h2, zi_cl g2]
      obtain ⟨M1, e1, h1, k1⟩ := z_makeCopy (t := 98) zt_wk (zt_rl hr) (hC r hr)
      rw [e1, zbo]
      obtain ⟨M2, e2, h3, k2⟩ := z_ahead (t := 98) zt_wk h1 (hR r hr).1.ls (zb_le (hR.bd hr) (by omega)) (by omega) hg
      rw [e2, zbo]
      have hC2 : zCR M2 R := (hC.wk k1).wk k2
      have e3 := zlm_e (zq_gt g) (R r)
      obtain ⟨M3, e4, h4, k3⟩ := x_settle hC2 hr h3 (by omega)
      rw [e4, zbp]
      exact ⟨M3, rfl, h4, ((zSR_w k1).tr (zSR_w k2)).tr k3⟩
    · rw [x_isReg hr, zbo, if_neg zl1n0, x_isGate0 h', zbo, if_pos rfl, if_pos (Or.inr h')]
      exact ⟨M, rfl, hC, zfr.rf _ _⟩
  · rw [x_isReg0 h, zbo, if_pos rfl, if_pos (Or.inl h)]
    exact ⟨M, rfl, hC, zfr.rf _ _⟩
theorem y_ahead {M : qv_Mem} {R : Nat → zq_T} (hC : zMR M R) (hK : zMC M) (hR : zRk R) (p q : Int32) : ∃ M1, f_X10_ahead qv_TT 106 p q M = some ((a_ahead R p q).1, M1) ∧ zMR M1 (a_ahead R p q).2 ∧ zMC M1 ∧ zfr zSM M M1 := by
  unfold f_X10_ahead a_ahead
  rcases zr_in p 4 with ⟨r, hr, h2, rfl⟩ | h
  · rcases zr_in q 7 with ⟨g, hg, g2, rfl⟩ | h'
    · have e40 := (hR r hr).2
      have eg := zgt_e hg
      rw [y_isReg hr, zbo, if_neg zl1n0, y_isGate hg, zbo, if_neg zl1n0, if_neg (fun q => q.elim (zr_n hr h2) (zr_n hg g2)), zi_cl h2, zi_cl g2, zl15, zl_4a]
      obtain ⟨M1, e1, h1, k1⟩ := y_product zt_tab (c := 15) (by omega) (by omega) (by omega) (hK.1 g hg) (hC r hr) (by omega) (by omega) (zb_le (zb_pm (zgt_bd hg) (hR.bd hr)) (by decide))
      rw [e1, zbo]
      have e3 := zlm_e (zq_gt g) (R r)
      obtain ⟨M3, e4, h4, h5, k3⟩ := y_settle (hC.kept k1 (fun s _ => by omega)) (hK.kept k1 (fun s _ _ => by omega)) hr h1 (by omega)
      rw [e4, zbp]
      exact ⟨M3, rfl, h4, h5, zfr.tr k1.fr k3⟩
    · rw [y_isReg hr, zbo, if_neg zl1n0, y_isGate0 h', zbo, if_pos rfl, if_pos (Or.inr h')]
      exact ⟨M, rfl, hC, hK, zfr.rf _ _⟩
  · rw [y_isReg0 h, zbo, if_pos rfl, if_pos (Or.inl h)]
    exact ⟨M, rfl, hC, hK, zfr.rf _ _⟩
def a_times (R : Nat → zq_T) (p q s : Int32) : Int32 × (Nat → zq_T) := if zr p 4 ∨ zr q 4 ∨ zr s 4 then (-1, R) else a_settle R p.toNatClampNeg (zq_lm (R q.toNatClampNeg) (R s.toNatClampNeg))
theorem a_times_k {R : Nat → zq_T} (hR : zRk R) (p q s : Int32) : zRk (a_times R p q s).2 := by
  unfold a_times
  rcases zr_in p 4 with ⟨r, hr, h2, rfl⟩ | h
  · rcases zr_in q 4 with ⟨g, hg, g2, rfl⟩ | h'
    · rcases zr_in s 4 with ⟨k, hk, k2, rfl⟩ | h''
      · rw [if_neg (fun q => q.elim (zr_n hr h2) (fun q => q.elim (zr_n hg g2) (zr_n hk k2))), zi_cl h2, zi_cl g2, zi_cl k2]
        exact hR.settle ((hR g hg).1.mul (hR k hk).1)
      · rw [if_pos (Or.inr (Or.inr h''))]
        exact hR
    · rw [if_pos (Or.inr (Or.inl h'))]
      exact hR
  · rw [if_pos (Or.inl h)]
    exact hR
theorem x_times {M : qv_Mem} {R : Nat → zq_T} (hC : zCR M R) (hR : zRk R) (p q s : Int32) : ∃ M1, f_X9_times qv_TT 0 p q s M = some ((a_times R p q s).1, M1) ∧ zCR M1 (a_times R p q s).2 ∧ zfr zSR M M1 := by
  unfold f_X9_times a_times
  rcases zr_in p 4 with ⟨r, hr, h2, rfl⟩ | h
  · rcases zr_in q 4 with ⟨g, hg, g2, rfl⟩ | h'
    · rcases zr_in s 4 with ⟨k, hk, kk2, rfl⟩ | h''
      · have e40 := (hR g hg).2
        have e41 := (hR k hk).2
        rw [x_isReg hr, zbo, if_neg zl1n0, x_isReg hg, zbo, if_neg zl1n0, x_isReg hk, zbo, if_neg zl1n0, if_neg (fun q => q.elim (zr_n hr h2) (fun q => q.elim (zr_n hg g2) (zr_n hk kk2))), zi_in hg (by omega), zgd, zi_in hk (by omega), zgd, zt_r hg, zt_r hk, zt_work, zi_cl h2, zi_cl g2, zi_cl kk2]
        obtain ⟨M1, e1, h1, k1⟩ := z_makeProduct (t := 98) zt_wk (zt_rl hg) (zt_rl hk) (by omega) (by omega) (hC g hg) (hC k hk)
        rw [e1, zbo]
        obtain ⟨M2, e2, h3, k2⟩ := z_lower (t := 98) zt_wk h1 (zb_le (zb_pm (hR.bd hg) (hR.bd hk)) (by decide)) (show (R g).2 + (R k).2 < 1000 by omega)
        rw [e2, zbo]
        have hC2 : zCR M2 R := (hC.wk k1).wk k2
        have e3 := zlm_e (R g) (R k)
        obtain ⟨M3, e4, h4, k3⟩ := x_settle hC2 hr h3 (show (zq_lm (R g) (R k)).2 < 2147483648 by omega)
        rw [e4, zbp]
        exact ⟨M3, rfl, h4, ((zSR_w k1).tr (zSR_w k2)).tr k3⟩
      · rw [x_isReg hr, zbo, if_neg zl1n0, x_isReg hg, zbo, if_neg zl1n0, x_isReg0 h'', zbo, if_pos rfl, if_pos (Or.inr (Or.inr h''))]
        exact ⟨M, rfl, hC, zfr.rf _ _⟩
    · rw [x_isReg hr, zbo, if_neg zl1n0, x_isReg0 h', zbo, if_pos rfl, if_pos (Or.inr (Or.inl h'))]
      exact ⟨M, rfl, hC, zfr.rf _ _⟩
  · rw [x_isReg0 h, zbo, if_pos rfl, if_pos (Or.inl h)]
    exact ⟨M, rfl, hC, zfr.rf _ _⟩
theorem y_times {M : qv_Mem} {R : Nat → zq_T} (hC : zMR M R) (hK : zMC M) (hR : zRk R) (p q s : Int32) : ∃ M1, f_X10_times qv_TT 106 p q s M = some ((a_times R p q s).1, M1) ∧ zMR M1 (a_times R p q s).2 ∧ zMC M1 ∧ zfr zSM M M1 := by
  unfold f_X10_times a_times
  rcases zr_in p 4 with ⟨r, hr, h2, rfl⟩ | h
  · rcases zr_in q 4 with ⟨g, hg, g2, rfl⟩ | h'
    · rcases zr_in s 4 with ⟨k, hk, kk2, rfl⟩ | h''
      · have e40 := (hR g hg).2
        have e41 := (hR k hk).2
        rw [y_isReg hr, zbo, if_neg zl1n0, y_isReg hg, zbo, if_neg zl1n0, y_isReg hk, zbo, if_neg zl1n0, if_neg (fun q => q.elim (zr_n hr h2) (fun q => q.elim (zr_n hg g2) (zr_n hk kk2))), zi_cl h2, zi_cl g2, zi_cl kk2, zl15]
        obtain ⟨M1, e1, h1, k1⟩ := y_product zt_tab (c := 15) (by omega) (by omega) (by omega) (hC g hg) (hC k hk) (by omega) (by omega) (zb_le (zb_pm (hR.bd hg) (hR.bd hk)) (by decide))
        rw [e1, zbo]
        have e3 := zlm_e (R g) (R k)
        obtain ⟨M3, e4, h4, h5, k3⟩ := y_settle (hC.kept k1 (fun s _ => by omega)) (hK.kept k1 (fun s _ _ => by omega)) hr h1 (by omega)
        rw [e4, zbp]
        exact ⟨M3, rfl, h4, h5, zfr.tr k1.fr k3⟩
      · rw [y_isReg hr, zbo, if_neg zl1n0, y_isReg hg, zbo, if_neg zl1n0, y_isReg0 h'', zbo, if_pos rfl, if_pos (Or.inr (Or.inr h''))]
        exact ⟨M, rfl, hC, hK, zfr.rf _ _⟩
    · rw [y_isReg hr, zbo, if_neg zl1n0, y_isReg0 h', zbo, if_pos rfl, if_pos (Or.inr (Or.inl h'))]
      exact ⟨M, rfl, hC, hK, zfr.rf _ _⟩
  · rw [y_isReg0 h, zbo, if_pos rfl, if_pos (Or.inl h)]
    exact ⟨M, rfl, hC, hK, zfr.rf _ _⟩
def a_turn (R : Nat → zq_T) (p : Int32) : Int32 × (Nat → zq_T) := if zr p 4 then (-1, R) else a_settle R p.toNatClampNeg (zq_ct (R p.toNatClampNeg))
theorem a_turn_k {R : Nat → zq_T} (hR : zRk R) (p : Int32) : zRk (a_turn R p).2 := by
  unfold a_turn
  rcases zr_in p 4 with ⟨r, hr, h2, rfl⟩ | h
  · rw [if_neg (zr_n hr h2), zi_cl h2]
    exact hR.settle (hR r hr).1.ct
  · rw [if_pos h]
    exact hR
theorem x_turn {M : qv_Mem} {R : Nat → zq_T} (hC : zCR M R) (hR : zRk R) (p : Int32) : ∃ M1, f_X9_turn qv_TT 0 p M = some ((a_turn R p).1, M1) ∧ zCR M1 (a_turn R p).2 ∧ zfr zSR M M1 := by
  unfold f_X9_turn a_turn
  rcases zr_in p 4 with ⟨r, hr, h2, rfl⟩ | h
  · have e40 := (hR r hr).2
    rw [x_isReg hr, zbo, if_neg zl1n0, if_neg (zr_n hr h2), zi_in hr (by omega), zgd, zt_r hr, zt_work, zi_cl h2]
    obtain ⟨M1, e1, h1, k1⟩ := z_makeTurned (t := 98) zt_wk (zt_rl hr) (by omega) (hC r hr)
    rw [e1, zbo]
    obtain ⟨M3, e4, h4, k3⟩ := x_settle (hC.wk k1) hr h1 (show (R r).2 < 2147483648 by omega)
    rw [e4, zbp]
    exact ⟨M3, rfl, h4, (zSR_w k1).tr k3⟩
  · rw [x_isReg0 h, zbo, if_pos rfl, if_pos h]
    exact ⟨M, rfl, hC, zfr.rf _ _⟩
theorem y_turn {M : qv_Mem} {R : Nat → zq_T} (hC : zMR M R) (hK : zMC M) (hR : zRk R) (p : Int32) : ∃ M1, f_X10_turn qv_TT 106 p M = some ((a_turn R p).1, M1) ∧ zMR M1 (a_turn R p).2 ∧ zMC M1 ∧ zfr zSM M M1 := by
  unfold f_X10_turn a_turn a_settle
  rcases zr_in p 4 with ⟨r, hr, h2, rfl⟩ | h
  · have e40 := (hR r hr).2
    rw [y_isReg hr, zbo, if_neg zl1n0, if_neg (zr_n hr h2), zi_cl h2, if_pos (show (zq_ct (R r)).2 ≤ 40 from e40)]
    obtain ⟨M1, e1, h1, k1⟩ := y_turns zt_tab (c := r) (by omega) (by omega) (hC r hr) (by omega)
    rw [e1, zbo, y_eOf zt_tab (by omega) h1 (show (R r).2 < 2147483648 by omega), zbo]
    exact ⟨M1, rfl, hC.set h1 k1 (fun s _ q => by omega), hK.kept k1 (fun s _ _ => by omega), k1.fr⟩
  · rw [y_isReg0 h, zbo, if_pos rfl, if_pos h]
    exact ⟨M, rfl, hC, hK, zfr.rf _ _⟩
def a_e (R : Nat → zq_T) (p : Int32) : Int32 := if zr p 4 then -1 else nI (R p.toNatClampNeg).2
theorem x_e {M : qv_Mem} {R : Nat → zq_T} (hC : zCR M R) (p : Int32) : f_X9_e qv_TT 0 p M = some (a_e R p) := by
  unfold f_X9_e a_e
  rcases zr_in p 4 with ⟨r, hr, h2, rfl⟩ | h
  · rw [x_isReg hr, zbo, if_neg zl1n0, if_neg (zr_n hr h2), zi_in hr (by omega), zgd, zt_r hr, zi_cl h2, zgS, (hC r hr).2]
  · rw [x_isReg0 h, zbo, if_pos rfl, if_pos h]
theorem y_e {M : qv_Mem} {R : Nat → zq_T} (hC : zMR M R) (hR : zRk R) (p : Int32) : f_X10_e qv_TT 106 p M = some (a_e R p) := by
  unfold f_X10_e a_e
  rcases zr_in p 4 with ⟨r, hr, h2, rfl⟩ | h
  · have e40 := (hR r hr).2
    rw [y_isReg hr, zbo, if_neg zl1n0, if_neg (zr_n hr h2), zi_cl h2, y_eOf zt_tab (by omega) (hC r hr) (by omega), zbo]
  · rw [y_isReg0 h, zbo, if_pos rfl, if_pos h]
def a_part (R : Nat → zq_T) (p q s i : Int32) : Int64 := if zr p 4 ∨ zr q 2 ∨ zr s 2 ∨ zr i 4 then -9223372036854775808 else Int64.ofInt (zc (R p.toNatClampNeg).1 ((q.toNatClampNeg * 2 + s.toNatClampNeg) * 4 + i.toNatClampNeg))
theorem zl2i : (2 : Int32) = nI 2 := id rfl
theorem zi_mul2 (a : Nat) : nI 2 * nI a = nI (2 * a) := (Int32.ofNat_mul 2 a).symm
theorem x_part {M : qv_Mem} {R : Nat → zq_T} (hC : zCR M R) (p q s i : Int32) : f_X9_part qv_TT 0 p q s i M = some (a_part R p q s i) := by
  unfold f_X9_part a_part
  rw [zl2i, zl4]
  rcases zr_in p 4 with ⟨r, hr, r2, rfl⟩ | h
  · rcases zr_in q 2 with ⟨a, ha, a2, rfl⟩ | h'
    · rcases zr_in s 2 with ⟨b, hb, b2, rfl⟩ | h''
      · rcases zr_in i 4 with ⟨c, hc, c2, rfl⟩ | h3
        · rw [x_isReg hr, zbo, zjn, if_neg zl1n0, x_below ha (by omega), zbo, if_neg zl1n0, x_below hb (by omega), zbo, if_neg zl1n0, x_below hc (by omega), zbo, if_neg zl1n0, zi_in hr (by omega), zgd, z_placeOf, zbo, nI_add, zt_r hr, zt_rl hr, zi_ldL (by omega) (by omega), if_neg (fun q => q.elim (zr_n hr r2) (fun q => q.elim (zr_n ha a2) (fun q => q.elim (zr_n hb b2) (zr_n hc c2)))), zi_cl r2, zi_cl a2, zi_cl b2, zi_cl c2, (hC r hr).1 _ (by omega)]
        · rw [x_isReg hr, zbo, zjn, if_neg zl1n0, x_below ha (by omega), zbo, if_neg zl1n0, x_below hb (by omega), zbo, if_neg zl1n0, x_below0 h3 (by omega), zbo, if_pos rfl, if_pos (Or.inr (Or.inr (Or.inr h3)))]
      · rw [x_isReg hr, zbo, zjn, if_neg zl1n0, x_below ha (by omega), zbo, if_neg zl1n0, x_below0 h'' (by omega), zbo, if_pos rfl, if_pos (Or.inr (Or.inr (Or.inl h'')))]
    · rw [x_isReg hr, zbo, zjn, if_neg zl1n0, x_below0 h' (by omega), zbo, if_pos rfl, if_pos (Or.inr (Or.inl h'))]
  · rw [x_isReg0 h, zbo, zjn, if_pos rfl, if_pos (Or.inl h)]
theorem y_part {M : qv_Mem} {R : Nat → zq_T} (hC : zMR M R) (p q s i : Int32) : f_X10_part qv_TT 106 p q s i M = some (a_part R p q s i) := by
  unfold f_X10_part a_part
  rw [zl2i]
  rcases zr_in p 4 with ⟨r, hr, r2, rfl⟩ | h
  · rcases zr_in q 2 with ⟨a, ha, a2, rfl⟩ | h'
    · rcases zr_in s 2 with ⟨b, hb, b2, rfl⟩ | h''
      · rcases zr_in i 4 with ⟨c, hc, c2, rfl⟩ | h3
        · have e1 : 17 * r + 4 * (2 * a + b) + c = 17 * r + ((a * 2 + b) * 4 + c) := by omega
          rw [y_isReg hr, zbo, zjn, if_neg zl1n0, y_in ha (by omega) (by decide), zbo, if_neg zl1n0, y_in hb (by omega) (by decide), zbo, if_neg zl1n0, y_in hc (by omega) (by decide), zbo, if_neg zl1n0, zi_mul2, nI_add, y_at zt_tab M (by omega), zbo, if_neg (fun q => q.elim (zr_n hr r2) (fun q => q.elim (zr_n ha a2) (fun q => q.elim (zr_n hb b2) (zr_n hc c2)))), zi_cl r2, zi_cl a2, zi_cl b2, zi_cl c2, e1]
          exact congrArg some ((hC r hr).1 ((a * 2 + b) * 4 + c) (by omega))
        · rw [y_isReg hr, zbo, zjn, if_neg zl1n0, y_in ha (by omega) (by decide), zbo, if_neg zl1n0, y_in hb (by omega) (by decide), zbo, if_neg zl1n0, y_in0 h3 (by decide), zbo, if_pos rfl, if_pos (Or.inr (Or.inr (Or.inr h3)))]
      · rw [y_isReg hr, zbo, zjn, if_neg zl1n0, y_in ha (by omega) (by decide), zbo, if_neg zl1n0, y_in0 h'' (by decide), zbo, if_pos rfl, if_pos (Or.inr (Or.inr (Or.inl h'')))]
    · rw [y_isReg hr, zbo, zjn, if_neg zl1n0, y_in0 h' (by decide), zbo, if_pos rfl, if_pos (Or.inr (Or.inl h'))]
  · rw [y_isReg0 h, zbo, zjn, if_pos rfl, if_pos (Or.inl h)]
