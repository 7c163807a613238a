/-! parts: the class. -/
noncomputable def a_pts (l l2 : List Nat) : Nat → Nat → Int32
  | 0, _ => -2
  | n + 1, i => @ite Int32 (zq_val (l.take (i + 1)) = zq_val (l2.take (i + 1))) (Classical.propDecidable _) (a_pts l l2 n (i + 1)) (nI i)
noncomputable def a_parts (W : Nat → List Nat) (p q : Int32) : Int32 := if zr p 3 ∨ zr q 3 then -1 else a_pts (W p.toNatClampNeg) (W q.toNatClampNeg) (max (W p.toNatClampNeg).length (W q.toNatClampNeg).length) 0
theorem zt_begun : qv_rf qv_TT 0 11 = 100 := by decide +kernel
theorem zt_bl : qv_rf qv_TT 100 0 = 101 := by decide +kernel
theorem zt_trial : qv_rf qv_TT 0 13 = 104 := by decide +kernel
theorem zt_tl : qv_rf qv_TT 104 0 = 105 := by decide +kernel
theorem zt_ended : qv_rf qv_TT 0 12 = 102 := by decide +kernel
theorem zt_el : qv_rf qv_TT 102 0 = 103 := by decide +kernel
theorem zi_max {a b : Nat} (ha : a < 2147483648) (hb : b < 2147483648) : (if nI a < nI b then nI b else nI a) = nI (max a b) := by
  by_cases h : a < b
  · rw [if_pos (nI_lt h hb), show max a b = b by omega]
  · rw [if_neg (nI_nlt (by omega) ha), show max a b = a by omega]
/-- one more gate, or none if there is none -/
theorem w_ar1 {T : List qv_Ent} {t p t1 p1 : Nat} (hp : qv_rf T t 0 = p) (hp1 : qv_rf T t1 0 = p1) (ht : t1 ≠ t) {l : List Nat} (hg : ∀ g ∈ l, g < 7) {i : Nat} (hi : i < 60) {M : qv_Mem} (hR : zR M t1 p1 l) (hA : zT M t p (zq_val (l.take i))) : ∃ M1, f_X7_applyRow T t t1 (nI i) (nI (i + 1)) M = some M1 ∧ zT M1 t p (zq_val (l.take (i + 1))) ∧ zo M M1 t p := by
  have h60 := hR.2.1
  have gt : ∀ g ∈ l.take i, g < 7 := fun g q => hg g (List.mem_of_mem_take q)
  have oA : zq_ok (zq_val (l.take i)) := ⟨_, gt, rfl⟩
  have eA := zq_e_val _ gt
  rw [List.length_take] at eA
  by_cases hl : i < l.length
  · obtain ⟨M1, e1, h1, -, -, k1⟩ := w_applyRow hp hp1 ht hg (a := i) (b := i + 1) (by omega) (by omega) hR hA oA (by omega)
    refine ⟨M1, e1, ?_, k1⟩
    have e : min l.length (i + 1) - i = 1 := by omega
    rw [e] at h1
    have e2 : l.take (i + 1) = l.take i ++ [l.getD i 0] := by
      rw [List.take_succ_eq_append_getElem hl]
      congr 2
      simp [List.getD_eq_getElem?_getD, hl]
    rw [e2, zq_val_snoc]
    exact h1
  · rw [w_applyRow0 (by omega) (by omega) (by omega) hR]
    refine ⟨M, rfl, ?_, zo.rf _ _ _⟩
    rw [List.take_of_length_le (by omega)]
    rw [List.take_of_length_le (by omega)] at hA
    exact hA
def zSB (a : Nat) : Prop := 98 ≤ a ∧ a ≤ 105
theorem x_pts {W : Nat → List Nat} (hk : zWk W) {w v : Nat} (hw : w < 3) (hv : v < 3) : ∀ (n i f : Nat) (M : qv_Mem), i + n = max (W w).length (W v).length → n < f → zCW M W → zT M 100 101 (zq_val ((W w).take i)) → zT M 104 105 (zq_val ((W v).take i)) → ∃ M1, qv_lp2 (b_X9_parts_61 0 (nI w) (nI v) qv_TT (nI (W w).length) (nI (W v).length) (fun M9 => some ((-2), M9))) f (nI i) M = some (a_pts (W w) (W v) n i, M1) ∧ zfr zSB M M1 := by
  have l1 := (hk w hw).1
  have l2 := (hk v hv).1
  intro n
  induction n with
  | zero =>
    intro i f M hi hf hW hA hB
    obtain ⟨f, rfl⟩ : ∃ g, f = g + 1 := ⟨f - 1, by omega⟩
    rw [zN2]
    unfold b_X9_parts_61
    rw [zi_max (by omega) (by omega), if_pos (nI_le (by omega) (by omega))]
    exact ⟨M, rfl, zfr.rf _ _⟩
  | succ n ih =>
    intro i f M hi hf hW hA hB
    obtain ⟨f, rfl⟩ : ∃ g, f = g + 1 := ⟨f - 1, by omega⟩
    rw [zN2]
    have ih1 := ih (i + 1) f
    generalize qv_lp2 (b_X9_parts_61 0 (nI w) (nI v) qv_TT (nI (W w).length) (nI (W v).length) (fun M9 => some ((-2), M9))) f = rr at ih1 ⊢
    unfold b_X9_parts_61
    rw [zi_max (by omega) (by omega), if_neg (nI_ge (show i < max (W w).length (W v).length by omega) (by omega)), zi_in hw (by omega), zgd, zt_w hw, zt_w hv, zt_begun, zt_trial, nI_1]
    obtain ⟨M1, e1, h1, k1⟩ := w_ar1 (t := 100) zt_bl (zt_wl hw) (by omega) (hk w hw).2 (by omega) (hW w hw) hA
    have hW1 : zCW M1 W := hW.fr k1.fr (fun a _ _ => by omega)
    obtain ⟨M2, e2, h2, k2⟩ := w_ar1 (t := 104) zt_tl (zt_wl hv) (by omega) (hk v hv).2 (by omega) (hW1 v hv) (hB.fr k1.fr (by omega) (by omega))
    have hW2 : zCW M2 W := hW1.fr k2.fr (fun a _ _ => by omega)
    have h1' := h1.fr k2.fr (by omega) (by omega)
    have gw : ∀ g ∈ (W w).take (i + 1), g < 7 := fun g q => (hk w hw).2 g (List.mem_of_mem_take q)
    have gv : ∀ g ∈ (W v).take (i + 1), g < 7 := fun g q => (hk v hv).2 g (List.mem_of_mem_take q)
    have ew := zq_e_val _ gw
    have ev := zq_e_val _ gv
    rw [List.length_take] at ew ev
    have ow : zq_ok (zq_val ((W w).take (i + 1))) := ⟨_, gw, rfl⟩
    have ov : zq_ok (zq_val ((W v).take (i + 1))) := ⟨_, gv, rfl⟩
    have hs := z_isSame zt_bl zt_tl h1' h2 (zb_le (ow.bd 30 (by omega)) (by decide)) (zb_le (ov.bd 30 (by omega)) (by decide)) (by omega) (by omega)
    have kk : zfr zSB M M2 := zfr.tr (k1.fr.mono (fun a ha => by unfold zSB; omega)) (k2.fr.mono (fun a ha => by unfold zSB; omega))
    rw [e1, zbo, zi_in hv (by omega), zgd, e2, zbo]
    unfold a_pts
    by_cases c : zq_val ((W w).take (i + 1)) = zq_val ((W v).take (i + 1))
    · rw [hs.1 c, zbo, if_neg zl1n0, if_pos c]
      obtain ⟨M3, e3, k3⟩ := ih1 M2 (by omega) (by omega) hW2 h1' h2
      exact ⟨M3, e3, kk.tr k3⟩
    · rw [hs.2 c, zbo, if_pos rfl, if_neg c]
      exact ⟨M2, rfl, kk⟩
