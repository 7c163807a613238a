/-! parts, on both sides. -/
theorem x_parts {M : qv_Mem} {W : Nat → List Nat} (hW : zCW M W) (hk : zWk W) (p q : Int32) : ∃ M1, f_X9_parts qv_TT 0 p q M = some (a_parts W p q, M1) ∧ zfr zSB M M1 := by
  unfold f_X9_parts a_parts
  rcases zr_in p 3 with ⟨w, hw, w2, rfl⟩ | h
  · rcases zr_in q 3 with ⟨v, hv, v2, rfl⟩ | h'
    · have l1 := (hk w hw).1
      have l2 := (hk v hv).1
      rw [x_isWord hw, zbo, if_neg zl1n0, x_isWord hv, zbo, if_neg zl1n0, if_neg (fun q => q.elim (zr_n hw w2) (zr_n hv v2)), zt_begun, zt_trial, zi_in hw (by omega), zi_in hv (by omega), zt_w hw, zt_w hv, zi_cl w2, zi_cl v2]
      obtain ⟨M1, e1, h1, k1⟩ := z_makeUnit (t := 100) zt_bl M
      obtain ⟨M2, e2, h2, k2⟩ := z_makeUnit (t := 104) zt_tl M1
      have hW2 : zCW M2 W := (hW.fr k1.fr (fun a _ _ => by omega)).fr k2.fr (fun a _ _ => by omega)
      rw [e1, zbo, e2, zbo, zgd, zgS, (hW2 w hw).1, zgd, zgS, (hW2 v hv).1, zjn, zi_0]
      obtain ⟨M3, e3, k3⟩ := x_pts hk hw hv _ 0 qv_N M2 (Nat.zero_add _) (qv_N_gt _ (by omega)) hW2 (h1.fr k2.fr (by omega) (by omega)) h2
      exact ⟨M3, e3, zfr.tr (zfr.tr (k1.fr.mono (fun a ha => by unfold zSB; omega)) (k2.fr.mono (fun a ha => by unfold zSB; omega))) k3⟩
    · rw [x_isWord hw, zbo, if_neg zl1n0, x_isWord0 h', zbo, if_pos rfl, if_pos (Or.inr h')]
      exact ⟨M, rfl, zfr.rf _ _⟩
  · rw [x_isWord0 h, zbo, if_pos rfl, if_pos (Or.inl h)]
    exact ⟨M, rfl, zfr.rf _ _⟩
theorem y_val1 {s w b : Nat} {W : Nat → List Nat} (hs : 15 ≤ s) (hs2 : s < 19) (hw : w < 3) (hb : b ≤ 60) (hk : zWk W) {M : qv_Mem} (hW : yW M W) (hK : zMC M) : ∃ M1, f_X10_valueOf qv_TT 106 (nI s) (nI w) (nI b) (-2) 0 M = some M1 ∧ zS M1 107 s (zq_val ((W w).take b)) ∧ zso M M1 107 (fun x => x = s ∨ x = 19) := by
  have h60 := (hk w hw).1
  obtain ⟨M1, e1, h1, o1, b1, k1⟩ := y_valueOf (s := s) (w := w) (b := b) (pl := -2) (p5 := 0) (W := W) (G := fun j => (W w).getD j 0) hs hs2 hw hb (fun i hi => if_neg (zne_m2 i (by omega))) (fun i _ => zg_get (hk w hw).2 i) hW hK
  refine ⟨M1, e1, ?_, k1⟩
  have e : a_ag (fun j => (W w).getD j 0) (min (W w).length b) 0 zq_one = zq_val ((W w).take b) := by
    rw [← a_ar_ag, a_ar_val _ 0 _ zq_ok.one.ls (by omega), zq_one_lm (zq_val_ls _), List.drop_zero]
    congr 1
    by_cases q : b ≤ (W w).length
    · rw [show min (W w).length b = b by omega]
    · rw [List.take_of_length_le (by omega), List.take_of_length_le (by omega)]
  rw [e] at h1
  exact h1
theorem zl16 : (16 : Int32) = nI 16 := id rfl
theorem y_pts {W : Nat → List Nat} {R : Nat → zq_T} (hk : zWk W) {w v : Nat} (hw : w < 3) (hv : v < 3) : ∀ (n i f : Nat) (M : qv_Mem), i + n = max (W w).length (W v).length → n < f → yW M W → zMC M → zMR M R → ∃ M1, qv_lp2 (b_X10_parts_18 106 (nI w) (nI v) qv_TT) f (nI i) M = some (a_pts (W w) (W v) n i, M1) ∧ zMC M1 ∧ zMR M1 R ∧ zfr zSM M M1 := by
  have l1 := (hk w hw).1
  have l2 := (hk v hv).1
  intro n
  induction n with
  | zero =>
    intro i f M hi hf hW hK hR
    obtain ⟨f, rfl⟩ : ∃ g, f = g + 1 := ⟨f - 1, by omega⟩
    rw [zN2]
    unfold b_X10_parts_18
    rw [zt_size, zi_ldI hw (by omega), (hW w hw).1, zjn, if_neg (nI_nlt (by omega) (by omega)), zi_ldI hv (by omega), (hW v hv).1, if_pos (nI_le (by omega) (by omega))]
    exact ⟨M, rfl, hK, hR, zfr.rf _ _⟩
  | succ n ih =>
    intro i f M hi hf hW hK hR
    obtain ⟨f, rfl⟩ : ∃ g, f = g + 1 := ⟨f - 1, by omega⟩
    rw [zN2]
    have ih1 := ih (i + 1) f
    generalize qv_lp2 (b_X10_parts_18 106 (nI w) (nI v) qv_TT) f = rr at ih1 ⊢
    obtain ⟨M1, e1, h1, k1⟩ := y_val1 (s := 15) (b := i + 1) (by omega) (by omega) hw (by omega) hk hW hK
    have hW1 : yW M1 W := by unfold yW; rw [k1.1]; exact hW
    have hK1 := hK.kept k1 (fun x _ _ => by omega)
    obtain ⟨M2, e2, h2, k2⟩ := y_val1 (s := 16) (b := i + 1) (by omega) (by omega) hv (by omega) hk hW1 hK1
    have hW2 : yW M2 W := by unfold yW; rw [k2.1]; exact hW1
    have hK2 := hK1.kept k2 (fun x _ _ => by omega)
    have hR2 := (hR.kept k1 (fun x _ => by omega)).kept k2 (fun x _ => by omega)
    have h1' := h1.kept k2 (by omega)
    have gw : ∀ g ∈ (W w).take (i + 1), g < 7 := fun g q => (hk w hw).2 g (List.mem_of_mem_take q)
    have gv : ∀ g ∈ (W v).take (i + 1), g < 7 := fun g q => (hk v hv).2 g (List.mem_of_mem_take q)
    have ew := zq_e_val _ gw
    have ev := zq_e_val _ gv
    rw [List.length_take] at ew ev
    have ow : zq_ok (zq_val ((W w).take (i + 1))) := ⟨_, gw, rfl⟩
    have ov : zq_ok (zq_val ((W v).take (i + 1))) := ⟨_, gv, rfl⟩
    have hs := y_areSame zt_tab (a := 15) (b := 16) (by omega) (by omega) h1' h2 (zb_le (ow.bd 30 (by omega)) (by decide)) (zb_le (ov.bd 30 (by omega)) (by decide)) (by omega) (by omega)
    have kk : zfr zSM M M2 := zfr.tr k1.fr k2.fr
    have step : b_X10_parts_18 106 (nI w) (nI v) qv_TT rr (nI i) M = qv_bo (f_X10_areSame qv_TT 106 (nI 15) (nI 16) M2) (fun v10 => (if v10 = 0 then some (nI i, M2) else rr (nI (i + 1)) M2)) := by
      unfold b_X10_parts_18
      rw [zt_size, zi_ldI hw (by omega), (hW w hw).1, zjn, nI_1, zl15, zl16, e1, zbo, e2, zbo]
      by_cases c : i < (W w).length
      · rw [if_pos (nI_lt c (by omega))]
      · rw [if_neg (nI_nlt (by omega) (by omega)), zi_ldI hv (by omega), (hW v hv).1, if_neg (nI_ge (show i < (W v).length by omega) (by omega))]
    rw [step]
    unfold a_pts
    by_cases c : zq_val ((W w).take (i + 1)) = zq_val ((W v).take (i + 1))
    · rw [hs.1 c, zbo, if_neg zl1n0, if_pos c]
      obtain ⟨M3, e3, k3, k4, k5⟩ := ih1 M2 (by omega) (by omega) hW2 hK2 hR2
      exact ⟨M3, e3, k3, k4, kk.tr k5⟩
    · rw [hs.2 c, zbo, if_pos rfl, if_neg c]
      exact ⟨M2, rfl, hK2, hR2, kk⟩
theorem y_parts {M : qv_Mem} {W : Nat → List Nat} {R : Nat → zq_T} (hW : yW M W) (hk : zWk W) (hK : zMC M) (hR : zMR M R) (p q : Int32) : ∃ M1, f_X10_parts qv_TT 106 p q M = some (a_parts W p q, M1) ∧ zMC M1 ∧ zMR M1 R ∧ zfr zSM M M1 := by
  unfold f_X10_parts a_parts
  rcases zr_in p 3 with ⟨w, hw, w2, rfl⟩ | h
  · rcases zr_in q 3 with ⟨v, hv, v2, rfl⟩ | h'
    · have l1 := (hk w hw).1
      have l2 := (hk v hv).1
      rw [y_isWord hw, zbo, if_neg zl1n0, y_isWord hv, zbo, if_neg zl1n0, if_neg (fun q => q.elim (zr_n hw w2) (zr_n hv v2)), zi_cl w2, zi_cl v2, zi_0]
      exact y_pts hk hw hv _ 0 qv_N M (Nat.zero_add _) (qv_N_gt _ (by omega)) hW hK hR
    · rw [y_isWord hw, zbo, if_neg zl1n0, y_isWord0 h', zbo, if_pos rfl, if_pos (Or.inr h')]
      exact ⟨M, rfl, hK, hR, zfr.rf _ _⟩
  · rw [y_isWord0 h, zbo, if_pos rfl, if_pos (Or.inl h)]
    exact ⟨M, rfl, hK, hR, zfr.rf _ _⟩
