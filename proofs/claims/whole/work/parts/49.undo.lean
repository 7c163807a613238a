/-! undo, on both sides. -/
def a_undo (W : Nat → List Nat) (Hs : List (Nat × List Nat)) : zWH := if Hs.length = 0 then (-5, W, Hs) else (nI (Hs.length - 1), a_bW W (hAt Hs 0).1 (hAt Hs 0).2, Hs.drop 1)
theorem hAt_drop (Hs : List (Nat × List Nat)) (k : Nat) : hAt (Hs.drop 1) k = hAt Hs (k + 1) := by
  unfold hAt
  simp only [List.getD_eq_getElem?_getD, List.getElem?_drop, Nat.add_comm 1 k]
theorem a_undo_k {W : Nat → List Nat} {Hs : List (Nat × List Nat)} (hk : zWk W) (hH : zHk Hs) : zWk (a_undo W Hs).2.1 ∧ zHk (a_undo W Hs).2.2 := by
  unfold a_undo
  have h8 := hH.1
  split
  · exact ⟨hk, hH⟩
  · refine ⟨fun i hi => ?_, ?_, fun k hk' => ?_⟩
    · show (a_bW W (hAt Hs 0).1 (hAt Hs 0).2 i).length ≤ 60 ∧ ∀ g ∈ a_bW W (hAt Hs 0).1 (hAt Hs 0).2 i, g < 7
      unfold a_bW
      split
      · exact (hH.2 0 (by omega)).2
      · exact hk i hi
    · show (Hs.drop 1).length ≤ 8
      rw [List.length_drop]; omega
    · have hk2 : k < (Hs.drop 1).length := hk'
      rw [List.length_drop] at hk2
      show (hAt (Hs.drop 1) k).1 < 3 ∧ (hAt (Hs.drop 1) k).2.length ≤ 60 ∧ ∀ g ∈ (hAt (Hs.drop 1) k).2, g < 7
      rw [hAt_drop]
      exact hH.2 (k + 1) (by omega)
theorem zi_p8 : ∀ n, n < 8 → ((nI n + 8) - 1) - ((nI n + 8) - 1) / 8 * 8 = nI ((n + 7) % 8) := by decide +kernel
theorem x_undo {M : qv_Mem} {W : Nat → List Nat} {Hs : List (Nat × List Nat)} (hW : zCW M W) (hH : zH M Hs) (hk : zHk Hs) : ∃ M1, f_X9_undo qv_TT 0 M = some ((a_undo W Hs).1, M1) ∧ zCW M1 (a_undo W Hs).2.1 ∧ zH M1 (a_undo W Hs).2.2 ∧ zfr zSW M M1 := by
  obtain ⟨nx, n1, n2, n3, n4, n5⟩ := hH
  unfold f_X9_undo a_undo
  rw [zt_hist, zgS, n3]
  by_cases h0 : Hs.length = 0
  · rw [if_pos (by rw [h0]; rfl), if_pos h0]
    exact ⟨M, rfl, hW, ⟨nx, n1, n2, n3, n4, n5⟩, zfr.rf _ _⟩
  · rw [if_neg (nI_ne0 (by omega) (by omega)), if_neg h0, zt_bench, zt_wrds]
    obtain ⟨o1, o2⟩ := n5 0 (by omega)
    obtain ⟨q1, q2, q3⟩ := hk.2 0 (by omega)
    have hx : zHx nx 0 = (nx + 7) % 8 := by unfold zHx; omega
    rw [hx] at o1 o2
    have m8 : (nx + 7) % 8 < 8 := Nat.mod_lt _ (by omega)
    unfold f_X3_giveBack
    rw [zgS, n3, if_neg (nI_ne0 (by omega) (by omega)), zgS, n2, zpS, zi_p8 nx n1, zgS]
    have s3 : (qv_upS M 37 2 (nI ((nx + 7) % 8))).2.2 37 3 = nI Hs.length := by rw [zs_ne2 (by omega)]; exact n3
    rw [s3, zpS, zl1i, zi_sub (by omega) (by omega)]
    generalize hN : qv_upS (qv_upS M 37 2 (nI ((nx + 7) % 8))) 37 3 (nI (Hs.length - 1)) = N
    have fN : zfr (fun a => a = 37) M N := by
      rw [← hN]
      refine ⟨fun a _ => rfl, fun a _ => rfl, fun a ha => ?_⟩
      rw [zs_ne (by omega), zs_ne (by omega)]
    have s2 : N.2.2 37 2 = nI ((nx + 7) % 8) := by rw [← hN, zs_ne2 (by omega), zs_at]
    have s4 : N.2.2 37 3 = nI (Hs.length - 1) := by rw [← hN, zs_at]
    have o1' : N.1 39 ((nx + 7) % 8) = nI (hAt Hs 0).1 := by rw [fN.1 39 (by omega)]; exact o1
    rw [zgS, s2, zt_hown, zi_ldI m8 (by omega), o1', zi_in q1 (by omega), zgd, zgS, s2, zi_in m8 (by omega), zgd, zi_cl (by omega), zi_cl (by omega), zt_hrows, zt_wrd q1, zt_hr _ m8]
    obtain ⟨M2, e2, h2, k2⟩ := w_makeCopy (t := 13 + 2 * (hAt Hs 0).1) (zt_wl q1) (zt_hl _ m8) (o2.fr fN (by omega) (by omega))
    have s5 : M2.2.2 37 3 = nI (Hs.length - 1) := by rw [k2.fr.2.2 37 (by omega)]; exact s4
    rw [e2, zbo, zbo, zgS, s5]
    refine ⟨M2, rfl, fun i hi => ?_, ⟨(nx + 7) % 8, m8, ?_, ?_, ?_, fun k hk' => ?_⟩, ?_⟩
    · show zR M2 _ _ (a_bW W (hAt Hs 0).1 (hAt Hs 0).2 i)
      unfold a_bW
      by_cases q : i = (hAt Hs 0).1
      · rw [if_pos q, q]
        exact h2
      · rw [if_neg q]
        exact ((hW i hi).fr fN (by omega) (by omega)).fr k2.fr (by omega) (by omega)
    · rw [k2.fr.2.2 37 (by omega)]; exact s2
    · show M2.2.2 37 3 = nI (Hs.drop 1).length
      rw [List.length_drop]; exact s5
    · show (Hs.drop 1).length ≤ 8
      rw [List.length_drop]; omega
    · have hk2 : k < (Hs.drop 1).length := hk'
      rw [List.length_drop] at hk2
      show zHe M2 _ k (hAt (Hs.drop 1) k)
      rw [hAt_drop]
      obtain ⟨m1, m2⟩ := n5 (k + 1) (by omega)
      have hxk : zHx ((nx + 7) % 8) k = zHx nx (k + 1) := by unfold zHx; omega
      have hlt := zHx_lt nx (k + 1)
      unfold zHe
      rw [hxk]
      refine ⟨?_, (m2.fr fN (by omega) (by omega)).fr k2.fr (by omega) (by omega)⟩
      rw [k2.fr.1 39 (by omega), fN.1 39 (by omega)]
      exact m1
    · exact zfr.tr (fN.mono (fun a ha => by unfold zSW; omega)) (k2.fr.mono (fun a ha => by unfold zSW; omega))
theorem y_u47 {P : qv_Mem} {w n : Nat} (hw : w < 3) (hn : n < 8) (h22 : P.2.2 106 22 = nI n) (k : qv_Mem → Option (Int32 × qv_Mem)) : qv_lp2 (b_X10_undo_47 106 qv_TT (nI w) k) qv_N (nI 0) P = k (zgi P 112 (h_w (P.1 112) (fun i => P.1 123 (60 * n + i)) w 60)) := by
  have e0 : P = zgi P 112 (h_w (P.1 112) (fun i => P.1 123 (60 * n + i)) w 0) := by
    have : h_w (P.1 112) (fun i => P.1 123 (60 * n + i)) w 0 = P.1 112 := by
      funext j
      unfold h_w
      rw [if_neg (by omega)]
    rw [this, zgi_self]
  have key := zfor2 (b := b_X10_undo_47 106 qv_TT (nI w) k) (k := k) (fun i => zgi P 112 (h_w (P.1 112) (fun i => P.1 123 (60 * n + i)) w i)) 0 60 (by omega) (fun i r hi1 hi2 => ?_) (fun r => ?_) qv_N (qv_N_gt _ (by omega))
  · exact (congrArg (fun N => qv_lp2 (b_X10_undo_47 106 qv_TT (nI w) k) qv_N (nI 0) N) e0).trans key
  · unfold b_X10_undo_47
    rw [zl60, if_neg (zi_nle (a := 60) (b := i) (by omega) (by omega)), zgS, zgi_s, h22, zt_was, zt_word, zi_mul, nI_add, zi_ldI (by omega) (by omega), zi_mul, nI_add, zi_stI (by omega) (by omega), zgi_up, nI_1, zgi_ne (show (123 : Nat) ≠ 112 by omega)]
    congr 2
    funext j
    unfold zui h_w
    by_cases hj : j = 60 * w + i
    · rw [if_pos hj, if_pos (by omega), show j - 60 * w = i by omega]
    · rw [if_neg hj]
      by_cases hj2 : 60 * w ≤ j ∧ j < 60 * w + i
      · rw [if_pos hj2, if_pos (by omega)]
      · rw [if_neg hj2, if_neg (by omega)]
  · unfold b_X10_undo_47
    rw [zl60, if_pos (nI_le (Nat.le_refl _) (by omega))]
theorem y_undo {M : qv_Mem} {W : Nat → List Nat} {Hs : List (Nat × List Nat)} (hW : yW M W) (hH : yH M Hs) (hk : zHk Hs) : ∃ M1, f_X10_undo qv_TT 106 M = some ((a_undo W Hs).1, M1) ∧ yW M1 (a_undo W Hs).2.1 ∧ yH M1 (a_undo W Hs).2.2 ∧ yfr M M1 := by
  obtain ⟨c1, c2, c3⟩ := hH
  unfold f_X10_undo a_undo
  rw [zgS, c1]
  by_cases h0 : Hs.length = 0
  · rw [if_pos (by rw [h0]; rfl), if_pos h0]
    exact ⟨M, rfl, hW, ⟨c1, c2, c3⟩, yfr.rf _⟩
  · obtain ⟨o1, o2, o3⟩ := c3 0 (by omega)
    obtain ⟨q1, q2, q3⟩ := hk.2 0 (by omega)
    rw [Nat.sub_zero] at o1 o2 o3
    rw [if_neg (nI_ne0 (by omega) (by omega)), if_neg h0, zgS, c1, zpS, zl1i, zi_sub (by omega) (by omega), zgS, zs_at, zt_wasO, zi_ldI (by omega) (by omega)]
    have g1 : (qv_upS M 106 22 (nI (Hs.length - 1))).1 125 (Hs.length - 1) = nI (hAt Hs 0).1 := o1
    have g2 : (qv_upS M 106 22 (nI (Hs.length - 1))).1 124 (Hs.length - 1) = nI (hAt Hs 0).2.length := o2
    rw [g1, zgS, zs_at, zt_wasS, zi_ldI (by omega) (by omega), g2, zt_size, zi_stI q1 (by omega), zjn, zi_0]
    generalize hP : qv_upI (qv_upS M 106 22 (nI (Hs.length - 1))) 113 (hAt Hs 0).1 (nI (hAt Hs 0).2.length) = P
    have p22 : P.2.2 106 22 = nI (Hs.length - 1) := by
      rw [← hP]
      show (qv_upS M 106 22 (nI (Hs.length - 1))).2.2 106 22 = _
      rw [zs_at]
    have pn : ∀ a, a ≠ 113 → P.1 a = M.1 a := fun a ha => by
      rw [← hP, zgi_u1, zgi_ne ha]
      rfl
    have p113 : P.1 113 = zui (M.1 113) (hAt Hs 0).1 (nI (hAt Hs 0).2.length) := by
      rw [← hP, zgi_u1]
      funext j
      rw [zgi_at]
      rfl
    rw [y_u47 q1 (show Hs.length - 1 < 8 by omega) p22, zgS, zgi_s, p22]
    refine ⟨_, rfl, fun v hv => ?_, ⟨?_, ?_, fun k hk' => ?_⟩, ?_⟩
    · obtain ⟨b1, b2, b3⟩ := hW v hv
      rw [zgi_ne (show (113 : Nat) ≠ 112 by omega), p113]
      show _ = nI (a_bW W (hAt Hs 0).1 (hAt Hs 0).2 v).length ∧ (a_bW W (hAt Hs 0).1 (hAt Hs 0).2 v).length ≤ 60 ∧ ∀ i, i < (a_bW W (hAt Hs 0).1 (hAt Hs 0).2 v).length → _ = nI ((a_bW W (hAt Hs 0).1 (hAt Hs 0).2 v).getD i 0)
      unfold a_bW
      by_cases q : v = (hAt Hs 0).1
      · rw [if_pos q]
        refine ⟨by unfold zui; rw [if_pos q], q2, fun i hi => ?_⟩
        rw [zgi_at]
        unfold h_w
        rw [if_pos (by rw [q]; omega), q, show 60 * (hAt Hs 0).1 + i - 60 * (hAt Hs 0).1 = i by omega, pn 123 (by omega)]
        exact o3 i hi
      · rw [if_neg q]
        refine ⟨by unfold zui; rw [if_neg q]; exact b1, b2, fun i hi => ?_⟩
        rw [zgi_at]
        unfold h_w
        rw [if_neg (by omega), pn 112 (by omega)]
        exact b3 i hi
    · show P.2.2 106 22 = nI (Hs.drop 1).length
      rw [List.length_drop]; exact p22
    · show (Hs.drop 1).length ≤ 8
      rw [List.length_drop]; omega
    · have hk2 : k < (Hs.drop 1).length := hk'
      rw [List.length_drop] at hk2
      show hE _ _ _ ((Hs.drop 1).length - 1 - k) (hAt (Hs.drop 1) k)
      rw [hAt_drop, List.length_drop, zgi_ne (show (125 : Nat) ≠ 112 by omega), zgi_ne (show (124 : Nat) ≠ 112 by omega), zgi_ne (show (123 : Nat) ≠ 112 by omega), pn 125 (by omega), pn 124 (by omega), pn 123 (by omega), show Hs.length - 1 - 1 - k = Hs.length - 1 - (k + 1) by omega]
      exact c3 (k + 1) (by omega)
    · refine ⟨by rw [zgi_l, ← hP]; rfl, fun a ha => ?_, fun a k hk' => ?_⟩
      · rw [zgi_ne (by omega), pn a (by omega)]
      · rw [zgi_s, ← hP]
        show (qv_upS M 106 22 (nI (Hs.length - 1))).2.2 a k = _
        rw [zs_ne2 (fun q => hk' ⟨q.1, Or.inr q.2⟩)]
