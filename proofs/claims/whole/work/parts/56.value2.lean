/-! value, on both sides. -/
def a_vl (l : List Nat) : zq_T := a_ar l (min l.length 60 - 0) 0 zq_one
def a_value (R : Nat → zq_T) (W : Nat → List Nat) (p q : Int32) : Int32 × (Nat → zq_T) := if zr p 4 ∨ zr q 3 then (-1, R) else a_settle R p.toNatClampNeg (a_vl (W q.toNatClampNeg))
theorem x_value {M : qv_Mem} {R : Nat → zq_T} {W : Nat → List Nat} (hC : zCR M R) (hW : zCW M W) (hk : zWk W) (p q : Int32) : ∃ M1, f_X9_value qv_TT 0 p q M = some ((a_value R W p q).1, M1) ∧ zCR M1 (a_value R W p q).2 ∧ zfr zSR M M1 := by
  unfold f_X9_value a_value
  rcases zr_in p 4 with ⟨r, hr, h2, rfl⟩ | h
  · rcases zr_in q 3 with ⟨w, hw, w2, rfl⟩ | h'
    · rw [x_isReg hr, zbo, if_neg zl1n0, x_isWord hw, zbo, if_neg zl1n0, if_neg (fun q => q.elim (zr_n hr h2) (zr_n hw w2)), zt_work, zi_in hw (by omega), zt_w hw, zi_cl h2, zi_cl w2]
      obtain ⟨M1, e1, h1, k1⟩ := z_makeUnit (t := 98) zt_wk M
      rw [e1, zbo, zgd, zi_0, zl60]
      have h60 := (hk w hw).1
      have e0 : zq_one.2 = 0 := rfl
      obtain ⟨M2, e2, h3, o3, b3, k2⟩ := w_applyRow (t := 98) (t1 := 13 + 2 * w) zt_wk (zt_wl hw) (by omega) (hk w hw).2 (a := 0) (b := 60) (by omega) (by omega) ((hW w hw).fr k1.fr (by omega) (by omega)) h1 zq_ok.one (by omega)
      rw [e2, zbo]
      obtain ⟨M3, e4, h4, k3⟩ := x_settle ((hC.wk k1).wk k2) hr h3 (by omega)
      rw [e4, zbp]
      exact ⟨M3, rfl, h4, ((zSR_w k1).tr (zSR_w k2)).tr k3⟩
    · rw [x_isReg hr, zbo, if_neg zl1n0, x_isWord0 h', zbo, if_pos rfl, if_pos (Or.inr h')]
      exact ⟨M, rfl, hC, zfr.rf _ _⟩
  · rw [x_isReg0 h, zbo, if_pos rfl, if_pos (Or.inl h)]
    exact ⟨M, rfl, hC, zfr.rf _ _⟩
theorem zne_m2 (i : Nat) (hi : i < 2147483648) : ¬ nI i = -2 := fun e => by
  have := congrArg Int32.toInt e
  rw [nI_toInt hi] at this
  have d : (-2 : Int32).toInt = -2 := by decide
  omega
theorem y_value {M : qv_Mem} {R : Nat → zq_T} {W : Nat → List Nat} (hC : zMR M R) (hK : zMC M) (hW : yW M W) (hk : zWk W) (p q : Int32) : ∃ M1, f_X10_value qv_TT 106 p q M = some ((a_value R W p q).1, M1) ∧ zMR M1 (a_value R W p q).2 ∧ zMC M1 ∧ zfr zSM M M1 := by
  unfold f_X10_value a_value
  rcases zr_in p 4 with ⟨r, hr, h2, rfl⟩ | h
  · rcases zr_in q 3 with ⟨w, hw, w2, rfl⟩ | h'
    · have h60 := (hk w hw).1
      rw [y_isReg hr, zbo, if_neg zl1n0, y_isWord hw, zbo, if_neg zl1n0, if_neg (fun q => q.elim (zr_n hr h2) (zr_n hw w2)), zi_cl h2, zi_cl w2, zl15, zl60]
      obtain ⟨M1, e1, h1, o1, b1, k1⟩ := y_valueOf (s := 15) (w := w) (b := 60) (pl := -2) (p5 := 0) (W := W) (G := fun j => (W w).getD j 0) (by omega) (by omega) hw (by omega) (fun i hi => if_neg (zne_m2 i (by omega))) (fun i _ => zg_get (hk w hw).2 i) hW hK
      rw [e1, zbo]
      have ev : a_ag (fun j => (W w).getD j 0) (min (W w).length 60) 0 zq_one = a_vl (W w) := (a_ar_ag (W w) _ 0 zq_one).symm
      rw [ev] at h1 b1
      obtain ⟨M3, e4, h4, h5, k3⟩ := y_settle (hC.kept k1 (fun s _ => by omega)) (hK.kept k1 (fun s _ _ => by omega)) hr h1 (by omega)
      rw [e4, zbp]
      exact ⟨M3, rfl, h4, h5, zfr.tr k1.fr k3⟩
    · rw [y_isReg hr, zbo, if_neg zl1n0, y_isWord0 h', zbo, if_pos rfl, if_pos (Or.inr h')]
      exact ⟨M, rfl, hC, hK, zfr.rf _ _⟩
  · rw [y_isReg0 h, zbo, if_pos rfl, if_pos (Or.inl h)]
    exact ⟨M, rfl, hC, hK, zfr.rf _ _⟩
