/-! Channels: the class makes them. -/
theorem chs_v {A : zq_T} (h : zq_ok A) {j : Nat} {k : Nat} (hk : k < 9) (hj : k % 3 = j) : chs (chS A.1 j) (k / 3) = chV A.1 k := by
  have q := chN_v (chS_h A.1 j) (chS_t h j)
  unfold chV chN chs
  rw [hj]
  have c : k / 3 = 0 ∨ k / 3 = 1 ∨ k / 3 = 2 := by omega
  rcases c with c | c | c
  · rw [c, if_pos rfl, q.1.1, q.1.2]
  · rw [c, if_neg (by omega), if_pos rfl, q.2.1.1, q.2.1.2]
  · rw [c, if_neg (by omega), if_neg (by omega), q.2.2.1, q.2.2.2]
theorem zg_b {A : zq_T} (hl : zq_ls A) {g : Nat} (h0 : g ≠ 0) (hg : g < 7) : zq_lm A (zq_gt g) = (zq_pmF A.1 (zq_gt g).1, A.2) := (zg_lm hl h0 hg).1
theorem sg_1 (A : zq_F) : zq_pmF (zq_pmF (zq_pmF (zq_pmF A (zq_gt 3).1) (zq_gt 4).1) (zq_gt 5).1) (zq_gt 5).1 = zq_pmF A (sg 1) := by
  rw [zq_pmF_assoc, zq_pmF_assoc, zq_pmF_assoc]
  congr 1
theorem chS_b {A : zq_T} (h : zq_ok A) (he : A.2 ≤ 50) (j : Nat) (hj : j < 3) : zb (chS A.1 j) 288230376151711744 := by
  have b1 := h.bd 25 (by omega)
  have b2 : zb (sg j) 1 := by
    unfold sg
    split
    · exact zb_mk (by decide) (by decide) (by decide) (by decide)
    · split <;> exact zb_mk (by decide) (by decide) (by decide) (by decide)
  have b3 : zb (zq_ctF A.1) (2 ^ 25) := h.ct.bd 25 (by show A.2 ≤ _; omega)
  exact zb_le (zb_pm (zb_pm b1 b2) b3) (by decide)
theorem chV_b {A : zq_T} (h : zq_ok A) (he : A.2 ≤ 50) : chb (chV A.1) := by
  intro k hk
  rw [← chs_v h hk rfl]
  have b := chS_b h he (k % 3) (by omega)
  obtain ⟨b0, b1, b2, b3⟩ := b 0 (by omega)
  obtain ⟨c0, c1, c2, c3⟩ := b 1 (by omega)
  generalize chS A.1 (k % 3) = S at b0 b1 b2 b3 c0 c1 c2 c3 ⊢
  have b0' : -288230376151711744 ≤ S.1.1 ∧ S.1.1 ≤ 288230376151711744 := b0
  have b1' : -288230376151711744 ≤ S.1.2.1 ∧ S.1.2.1 ≤ 288230376151711744 := b1
  have c0' : -288230376151711744 ≤ S.2.1.1 ∧ S.2.1.1 ≤ 288230376151711744 := c0
  have c1' : -288230376151711744 ≤ S.2.1.2.1 ∧ S.2.1.2.1 ≤ 288230376151711744 := c1
  have c2' : -288230376151711744 ≤ S.2.1.2.2.1 ∧ S.2.1.2.2.1 ≤ 288230376151711744 := c2
  have c3' : -288230376151711744 ≤ S.2.1.2.2.2 ∧ S.2.1.2.2.2 ≤ 288230376151711744 := c3
  unfold chs
  split
  · dsimp only; omega
  · split
    · dsimp only; omega
    · dsimp only; omega
def chA (A : zq_T) : (Nat → Int × Int) × Nat := chl (2 * A.2 + 2) (chV A.1)
theorem x_makeOf {t t1 p1 : Nat} (ht : zct t) (hp1 : qv_rf qv_TT t1 0 = p1) (d1 : t1 < t ∨ t + 8 < t1) (d2 : p1 < t ∨ t + 8 < p1) {M : qv_Mem} {A : zq_T} (hA : zT M t1 p1 A) (oA : zq_ok A) (eA : A.2 ≤ 50) : ∃ M1, f_X1_makeOf qv_TT t t1 M = some M1 ∧ chM M1 (t + 1) (t + 2) (chA A).1 ∧ M1.2.2 t 2 = nI (chA A).2 ∧ zfr (fun a => t ≤ a ∧ a ≤ t + 8) M M1 := by
  have T := zt_ch ht
  unfold f_X1_makeOf
  rw [T.2.2.1, T.2.2.2.1]
  have bA := oA.bd 25 (by omega)
  have lA := oA.ls
  obtain ⟨M1, e1, h1, k1⟩ := z_makeTurned (t := t + 3) T.2.2.2.2.2.1 hp1 (by omega) hA
  have hA1 : zT M1 t1 p1 A := hA.fr k1.fr (by omega) (by omega)
  obtain ⟨M2, e2, h2, k2⟩ := z_makeCopy (t := t + 5) T.2.2.2.2.2.2.1 hp1 hA1
  have o3 := oA.mul (zq_ok.gt1 (show 3 < 7 by omega))
  have g3 := zg_b lA (show 3 ≠ 0 by omega) (show 3 < 7 by omega)
  obtain ⟨M3, e3, h3, k3⟩ := z_behind (t := t + 5) T.2.2.2.2.2.2.1 h2 lA (zb_le bA (by decide)) (by omega) (show 3 < 7 by omega)
  have h1' := (h1.fr k2.fr (by omega) (by omega)).fr k3.fr (by omega) (by omega)
  obtain ⟨M4, e4, h4, k4⟩ := x_fill ht h3 h1' (j := 0) (by omega)
  rw [e1, zbo, e2, zbo, zl3, e3, zbo, zi_0, e4, zbo]
  have h3' := h3.fr k4 (by omega) (by omega)
  have E3 : (zq_lm A (zq_gt 3)).2 = A.2 := by rw [g3]
  have o4 := o3.mul (zq_ok.gt1 (show 4 < 7 by omega))
  have g4 := zg_b o3.ls (show 4 ≠ 0 by omega) (show 4 < 7 by omega)
  obtain ⟨M5, e5, h5, k5⟩ := z_behind (t := t + 5) T.2.2.2.2.2.2.1 h3' o3.ls (zb_le (o3.bd 25 (by omega)) (by decide)) (by omega) (show 4 < 7 by omega)
  have E4 : (zq_lm (zq_lm A (zq_gt 3)) (zq_gt 4)).2 = A.2 := by rw [g4]; exact E3
  have o5 := o4.mul (zq_ok.gt1 (show 5 < 7 by omega))
  have g5 := zg_b o4.ls (show 5 ≠ 0 by omega) (show 5 < 7 by omega)
  obtain ⟨M6, e6, h6, k6⟩ := z_behind (t := t + 5) T.2.2.2.2.2.2.1 h5 o4.ls (zb_le (o4.bd 25 (by omega)) (by decide)) (by omega) (show 5 < 7 by omega)
  have E5 : (zq_lm (zq_lm (zq_lm A (zq_gt 3)) (zq_gt 4)) (zq_gt 5)).2 = A.2 := by rw [g5]; exact E4
  have g6 := zg_b o5.ls (show 5 ≠ 0 by omega) (show 5 < 7 by omega)
  obtain ⟨M7, e7, h7, k7⟩ := z_behind (t := t + 5) T.2.2.2.2.2.2.1 h6 o5.ls (zb_le (o5.bd 25 (by omega)) (by decide)) (by omega) (show 5 < 7 by omega)
  have h1'' := (((h1'.fr k4 (by omega) (by omega)).fr k5.fr (by omega) (by omega)).fr k6.fr (by omega) (by omega)).fr k7.fr (by omega) (by omega)
  obtain ⟨M8, e8, h8, k8⟩ := x_fill ht h7 h1'' (j := 1) (by omega)
  rw [zl4, e5, zbo, zl5i, e6, zbo, e7, zbo, zl1i, e8, zbo]
  have hA8 : zT M8 t1 p1 A := (((((((hA1.fr k2.fr (by omega) (by omega)).fr k3.fr (by omega) (by omega)).fr k4 (by omega) (by omega)).fr k5.fr (by omega) (by omega)).fr k6.fr (by omega) (by omega)).fr k7.fr (by omega) (by omega)).fr k8 (by omega) (by omega))
  obtain ⟨M9, e9, h9, k9⟩ := z_makeCopy (t := t + 5) T.2.2.2.2.2.2.1 hp1 hA8
  have g7 := zg_b lA (show 4 ≠ 0 by omega) (show 4 < 7 by omega)
  obtain ⟨M10, e10, h10, k10⟩ := z_behind (t := t + 5) T.2.2.2.2.2.2.1 h9 lA (zb_le bA (by decide)) (by omega) (show 4 < 7 by omega)
  have h1''' := ((h1''.fr k8 (by omega) (by omega)).fr k9.fr (by omega) (by omega)).fr k10.fr (by omega) (by omega)
  obtain ⟨M11, e11, h11, k11⟩ := x_fill ht h10 h1''' (j := 2) (by omega)
  have hA11 : zT M11 t1 p1 A := ((hA8.fr k9.fr (by omega) (by omega)).fr k10.fr (by omega) (by omega)).fr k11 (by omega) (by omega)
  rw [e9, zbo, e10, zbo, zl2i, e11, zbo, zgS, zpS, hA11.2, zi_mul, nI_add]
  have s0 : zq_pmF (zq_lm A (zq_gt 3)).1 (zq_ct A).1 = chS A.1 0 := by rw [g3]; rfl
  have s1 : zq_pmF (zq_lm (zq_lm (zq_lm (zq_lm A (zq_gt 3)) (zq_gt 4)) (zq_gt 5)) (zq_gt 5)).1 (zq_ct A).1 = chS A.1 1 := by
    rw [g6]
    show zq_pmF (zq_pmF (zq_lm (zq_lm (zq_lm A (zq_gt 3)) (zq_gt 4)) (zq_gt 5)).1 (zq_gt 5).1) (zq_ct A).1 = chS A.1 1
    rw [g5]
    show zq_pmF (zq_pmF (zq_pmF (zq_lm (zq_lm A (zq_gt 3)) (zq_gt 4)).1 (zq_gt 5).1) (zq_gt 5).1) (zq_ct A).1 = chS A.1 1
    rw [g4]
    show zq_pmF (zq_pmF (zq_pmF (zq_pmF (zq_lm A (zq_gt 3)).1 (zq_gt 4).1) (zq_gt 5).1) (zq_gt 5).1) (zq_ct A).1 = chS A.1 1
    rw [g3]
    show zq_pmF (zq_pmF (zq_pmF (zq_pmF (zq_pmF A.1 (zq_gt 3).1) (zq_gt 4).1) (zq_gt 5).1) (zq_gt 5).1) (zq_ct A).1 = chS A.1 1
    rw [sg_1]
    rfl
  have s2 : zq_pmF (zq_lm A (zq_gt 4)).1 (zq_ct A).1 = chS A.1 2 := by rw [g7]; rfl
  rw [s0] at h4
  rw [s1] at h8
  rw [s2] at h11
  have hV : chM M11 (t + 1) (t + 2) (chV A.1) := by
    intro k hk
    have q11 := h11 k hk
    have c : k % 3 = 0 ∨ k % 3 = 1 ∨ k % 3 = 2 := by omega
    rcases c with c | c | c
    · rw [if_neg (by omega)] at q11
      have q8 := h8 k hk
      rw [if_neg (by omega)] at q8
      have q4 := h4 k hk
      rw [if_pos c] at q4
      rw [q11.1, q11.2, k10.2.1 _ (by omega), k9.2.1 _ (by omega), k10.2.1 _ (by omega), k9.2.1 _ (by omega), q8.1, q8.2, k7.2.1 _ (by omega), k6.2.1 _ (by omega), k5.2.1 _ (by omega), k7.2.1 _ (by omega), k6.2.1 _ (by omega), k5.2.1 _ (by omega), q4.1, q4.2, chs_v oA hk c]
      exact ⟨rfl, rfl⟩
    · rw [if_neg (by omega)] at q11
      have q8 := h8 k hk
      rw [if_pos c] at q8
      rw [q11.1, q11.2, k10.2.1 _ (by omega), k9.2.1 _ (by omega), k10.2.1 _ (by omega), k9.2.1 _ (by omega), q8.1, q8.2, chs_v oA hk c]
      exact ⟨rfl, rfl⟩
    · rw [if_pos c] at q11
      rw [q11.1, q11.2, chs_v oA hk c]
      exact ⟨rfl, rfl⟩
  have hV' : chM (qv_upS M11 t 2 (nI (2 * A.2 + 2))) (t + 1) (t + 2) (chV A.1) := hV
  unfold f_X1_lower
  rw [zjn, zi_0]
  obtain ⟨M12, e12, h12, f12, k12⟩ := x_chlow ht (fun M1 => some M1) (2 * A.2 + 2) 0 qv_N (qv_upS M11 t 2 (nI (2 * A.2 + 2))) (chV A.1) hV' (chV_b oA eA) (zs_at _ _ _ _) (by omega) (qv_N_gt _ (by omega))
  rw [e12, zbo]
  refine ⟨M12, rfl, h12, f12, ?_⟩
  have f0 : zfr (fun a => t ≤ a ∧ a ≤ t + 8) M11 (qv_upS M11 t 2 (nI (2 * A.2 + 2))) := ⟨fun _ _ => rfl, fun _ _ => rfl, fun a ha => zs_ne (by omega)⟩
  have m : ∀ {N N1 : qv_Mem} {S : Nat → Prop}, zfr S N N1 → (∀ a, S a → t ≤ a ∧ a ≤ t + 8) → zfr (fun a => t ≤ a ∧ a ≤ t + 8) N N1 := fun q w => q.mono w
  have z1 := (m k1.fr (fun a ha => by omega)).tr (m k2.fr (fun a ha => by omega))
  have z2 := (z1.tr (m k3.fr (fun a ha => by omega))).tr (m k4 (fun a ha => by omega))
  have z3 := ((z2.tr (m k5.fr (fun a ha => by omega))).tr (m k6.fr (fun a ha => by omega))).tr (m k7.fr (fun a ha => by omega))
  have z4 := ((z3.tr (m k8 (fun a ha => by omega))).tr (m k9.fr (fun a ha => by omega))).tr (m k10.fr (fun a ha => by omega))
  exact ((z4.tr (m k11 (fun a ha => by omega))).tr f0).tr (m k12 (fun a ha => by omega))
theorem zt_shape : qv_rf qv_TT 0 7 = 73 := by decide +kernel
def a_channel (R : Nat → zq_T) (p q s w : Int32) : Int64 := if zr p 4 then -9223372036854775808 else if zr q 3 then -9223372036854775808 else if zr s 3 then -9223372036854775808 else if zr w 2 then -9223372036854775808 else if w = 0 then Int64.ofInt ((chA (R p.toNatClampNeg)).1 (3 * q.toNatClampNeg + s.toNatClampNeg)).1 else Int64.ofInt ((chA (R p.toNatClampNeg)).1 (3 * q.toNatClampNeg + s.toNatClampNeg)).2
theorem x_channel {M : qv_Mem} {R : Nat → zq_T} (hC : zCR M R) (hR : zRk R) (p q s w : Int32) : ∃ M1, f_X9_channel qv_TT 0 p q s w M = some (a_channel R p q s w, M1) ∧ zfr (fun a => 73 ≤ a ∧ a ≤ 81) M M1 := by
  unfold f_X9_channel a_channel
  rcases zr_in p 4 with ⟨r, hr, r2, rfl⟩ | h
  · rw [x_isReg hr, zbo, zjn, if_neg zl1n0, if_neg (zr_n hr r2), zl3, zl2i]
    rcases zr_in q 3 with ⟨i, hi, i2, rfl⟩ | h
    · rw [x_below hi (by omega), zbo, if_neg zl1n0, if_neg (zr_n hi i2)]
      rcases zr_in s 3 with ⟨j, hj, j2, rfl⟩ | h
      · rw [x_below hj (by omega), zbo, if_neg zl1n0, if_neg (zr_n hj j2)]
        rcases zr_in w 2 with ⟨v, hv, v2, rfl⟩ | h
        · have e40 := (hR r hr).2
          rw [x_below hv (by omega), zbo, if_neg zl1n0, if_neg (zr_n hv v2), zi_in hr (by omega), zgd, zt_r hr, zt_shape, zi_cl r2, zi_cl i2, zi_cl j2]
          obtain ⟨M1, e1, h1, h2, k1⟩ := x_makeOf (t := 73) (Or.inl rfl) (zt_rl hr) (by omega) (by omega) (hC r hr) (hR r hr).1 (by omega)
          have T := zt_ch (t := 73) (Or.inl rfl)
          rw [e1, zbo, T.1, T.2.1, zi_mul, nI_add, zi_ldL (by omega) (by omega), zi_ldL (by omega) (by omega), (h1 _ (by omega)).1, (h1 _ (by omega)).2, Nat.mul_comm i 3]
          refine ⟨M1, ?_, k1⟩
          by_cases c : nI v = 0
          · rw [if_pos c, if_pos c]
          · rw [if_neg c, if_neg c]
        · rw [x_below0 h (by omega), zbo, if_pos rfl, if_pos h]
          exact ⟨M, rfl, zfr.rf _ _⟩
      · rw [x_below0 h (by omega), zbo, if_pos rfl, if_pos h]
        exact ⟨M, rfl, zfr.rf _ _⟩
    · rw [x_below0 h (by omega), zbo, if_pos rfl, if_pos h]
      exact ⟨M, rfl, zfr.rf _ _⟩
  · rw [x_isReg0 h, zbo, zjn, if_pos rfl, if_pos h]
    exact ⟨M, rfl, zfr.rf _ _⟩
def a_count (R : Nat → zq_T) (p : Int32) : Int32 := if zr p 4 then -1 else nI (chA (R p.toNatClampNeg)).2
theorem x_count {M : qv_Mem} {R : Nat → zq_T} (hC : zCR M R) (hR : zRk R) (p : Int32) : ∃ M1, f_X9_count qv_TT 0 p M = some (a_count R p, M1) ∧ zfr (fun a => 73 ≤ a ∧ a ≤ 81) M M1 := by
  unfold f_X9_count a_count
  rcases zr_in p 4 with ⟨r, hr, r2, rfl⟩ | h
  · have e40 := (hR r hr).2
    rw [x_isReg hr, zbo, if_neg zl1n0, if_neg (zr_n hr r2), zi_in hr (by omega), zgd, zt_r hr, zt_shape, zi_cl r2]
    obtain ⟨M1, e1, h1, h2, k1⟩ := x_makeOf (t := 73) (Or.inl rfl) (zt_rl hr) (by omega) (by omega) (hC r hr) (hR r hr).1 (by omega)
    rw [e1, zbo, zgS, h2]
    exact ⟨M1, rfl, k1⟩
  · rw [x_isReg0 h, zbo, if_pos rfl, if_pos h]
    exact ⟨M, rfl, zfr.rf _ _⟩
