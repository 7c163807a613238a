/-! The 192: the class finds them. -/
theorem zup_ne {M : qv_Mem} {p j a : Nat} {v : Int32} (h : a ≠ p) : (qv_upI M p j v).1 a = M.1 a := by
  funext i
  show (if a = p ∧ i = j then v else M.1 a i) = _
  rw [if_neg (fun q => h q.1)]
theorem zup_at (M : qv_Mem) (p j : Nat) (v : Int32) (i : Nat) : (qv_upI M p j v).1 p i = if i = j then v else M.1 p i := by
  show (if p = p ∧ i = j then v else M.1 p i) = _
  by_cases h : i = j
  · rw [if_pos ⟨rfl, h⟩, if_pos h]
  · rw [if_neg (fun q => h q.2), if_neg h]
theorem zup_s (M : qv_Mem) (p j : Nat) (v : Int32) : (qv_upI M p j v).2.2 = M.2.2 := rfl
theorem gg_lt (i : Nat) : gg i < 7 ∧ gg i ∈ pgs := by
  unfold gg
  split
  · decide
  · split <;> decide
theorem gg_inj {u s : Nat} (h : 7 * (u / 3) + gg (u % 3) = 7 * (s / 3) + gg (s % 3)) : u = s := by
  have a : u % 3 = 0 ∨ u % 3 = 1 ∨ u % 3 = 2 := by omega
  have b : s % 3 = 0 ∨ s % 3 = 1 ∨ s % 3 = 2 := by omega
  rcases a with a | a | a <;> rcases b with b | b | b <;> simp [gg, a, b] at h <;> omega
def zBF (M : qv_Mem) (s : Nat) : Prop := M.2.2 63 8 = nI (cnt s) ∧ (∀ i, i < cnt s → M.1 64 i = nI (key i)) ∧ (∀ i, 0 < i → i < cnt s → M.1 67 i = nI (par i) ∧ M.1 68 i = nI (pgt i)) ∧ ∀ u, u < s → M.1 65 (7 * (u / 3) + gg (u % 3)) = nI (beh (u / 3) (gg (u % 3)))
def zpf (M M1 : qv_Mem) : Prop := zfr (fun a => (63 ≤ a ∧ a ≤ 68) ∨ a = 71 ∨ a = 72) M M1 ∧ M1.2.2 63 9 = M.2.2 63 9
theorem zpf.rf (M : qv_Mem) : zpf M M := ⟨zfr.rf _ _, rfl⟩
theorem zpf.tr {M M1 M2 : qv_Mem} (h : zpf M M1) (k : zpf M1 M2) : zpf M M2 := ⟨h.1.tr k.1, k.2.trans h.2⟩
theorem zpf_u {M : qv_Mem} {p j : Nat} {v : Int32} (h : 63 ≤ p ∧ p ≤ 68) : zpf M (qv_upI M p j v) := ⟨(zfr_u M p j v).mono (fun a ha => by omega), rfl⟩
theorem zpf_o {M M1 : qv_Mem} (h : zo M M1 71 72) : zpf M M1 := ⟨h.fr.mono (fun a ha => by omega), h.2.2 _ _ (by omega)⟩
theorem zpf_s {M : qv_Mem} {v : Int32} : zpf M (qv_upS M 63 8 v) := ⟨⟨fun _ _ => rfl, fun _ _ => rfl, fun a ha => zs_ne (by omega)⟩, zs_ne2 (by omega)⟩
theorem zi_mx {m : Nat} (h : m < 2147483648) : (if nI m < 0 then 0 else nI m) = nI m := if_neg (nI_pos h)
theorem x_reach {M : qv_Mem} {s : Nat} (hs : s < 576) (h : zBF M s) : ∃ M1, f_X2_reach qv_TT 63 (nI (s / 3)) (nI (gg (s % 3))) M = some M1 ∧ zBF M1 (s + 1) ∧ zpf M M1 := by
  obtain ⟨h8, hK, hP, hB⟩ := h
  obtain ⟨c1, c2, c3⟩ := cl_s hs
  obtain ⟨g7, gp⟩ := gg_lt (s % 3)
  have hk : s / 3 < 192 := by omega
  obtain ⟨b1, b2⟩ := cl_beh hk gp
  unfold f_X2_reach
  rw [zt_cl.2.2.2.2.2.2.2.1]
  obtain ⟨M1, e1, h1, k1⟩ := x_load (t := 71) zt_cl.2.2.2.2.2.2.2.2.1 hk (hK _ c2)
  have hE := (cl_key hk).2.2
  obtain ⟨M2, e2, h2, k2⟩ := z_behind (t := 71) zt_cl.2.2.2.2.2.2.2.2.1 h1 (cl_ok _ hk).ls (zb_le (cl_b hk) (by decide)) (by omega) g7
  rw [b1] at h2
  have hE2 := (cl_key b2).2.2
  have k12 := (zpf_o k1).tr (zpf_o k2)
  have n8 : M2.2.2 63 8 = nI (cnt s) := by rw [k2.2.2 _ _ (by omega), k1.2.2 _ _ (by omega)]; exact h8
  have n1 : M2.1 = M.1 := by rw [k2.1, k1.1]
  rw [e1, zbo, e2, zbo, x_keyOf zt_cl.2.2.2.2.2.2.2.2.1 h2 (zb_le (cl_b b2) (by decide)) (by omega), zbo, x_findKey c1 n8 (by rw [n1]; exact hK), zbo, zjn, zt_cl.1, zt_cl.2.1, zt_cl.2.2.2.1, zt_cl.2.2.2.2.1, zl7, zi_mul, nI_add, Nat.mul_comm (s / 3) 7]
  generalize hm : beh (s / 3) (gg (s % 3)) = m at b2 c3 h2 hE2 ⊢
  rcases c3 with ⟨c3, c4⟩ | ⟨c3, c4, c5, c6⟩
  · rw [cix_in c1 c3 rfl, if_pos (nI_pos' (by omega))]
    dsimp only
    rw [zi_mx (by omega), zi_stI (by omega) (by omega)]
    refine ⟨_, rfl, ⟨?_, fun i hi => ?_, fun i hi0 hi => ?_, fun u hu => ?_⟩, k12.tr (zpf_u (by omega))⟩
    · rw [c4]; exact n8
    · rw [c4] at hi
      rw [zup_ne (by omega), n1]
      exact hK i hi
    · rw [c4] at hi
      rw [zup_ne (by omega), zup_ne (by omega), n1]
      exact hP i hi0 hi
    · rw [zup_at, n1]
      by_cases e : u = s
      · rw [e, if_pos rfl, hm]
      · rw [if_neg (fun q => e (gg_inj q))]
        exact hB u (by omega)
  · rw [cix_out (fun k hk2 q => by
      have := cl_inj (by omega) b2 q
      omega), if_neg zln2, zgS, n8, show (192 : Int32) = nI 192 from rfl, if_neg (zi_nle (a := 192) (b := cnt s) (by omega) (by omega)), zgS, n8, zi_stI (by omega) (by omega), zi_stI (by omega) (by omega), zi_stI (by omega) (by omega), zgS, zpS]
    dsimp only
    have m8 : (qv_upI (qv_upI (qv_upI M2 64 (cnt s) (zkey (CL m))) 67 (cnt s) (nI (s / 3))) 68 (cnt s) (nI (gg (s % 3)))).2.2 63 8 = nI (cnt s) := n8
    rw [m8, nI_1, zi_mx (by omega), zi_stI (by omega) (by omega), zkey_cl b2]
    refine ⟨_, rfl, ⟨?_, fun i hi => ?_, fun i hi0 hi => ?_, fun u hu => ?_⟩, ((((k12.tr (zpf_u (by omega))).tr (zpf_u (by omega))).tr (zpf_u (by omega))).tr zpf_s).tr (zpf_u (by omega))⟩
    · rw [c4, zup_s, zs_at]
    · rw [c4] at hi
      rw [zup_ne (by omega)]
      show (qv_upI (qv_upI (qv_upI M2 64 (cnt s) (nI (key m))) 67 (cnt s) (nI (s / 3))) 68 (cnt s) (nI (gg (s % 3)))).1 64 i = _
      rw [zup_ne (by omega), zup_ne (by omega), zup_at, n1]
      by_cases e : i = cnt s
      · rw [if_pos e, e, c3]
      · rw [if_neg e]
        exact hK i (by omega)
    · rw [c4] at hi
      rw [zup_ne (by omega), zup_ne (by omega)]
      show (qv_upI (qv_upI (qv_upI M2 64 (cnt s) (nI (key m))) 67 (cnt s) (nI (s / 3))) 68 (cnt s) (nI (gg (s % 3)))).1 67 i = _ ∧ (qv_upI (qv_upI (qv_upI M2 64 (cnt s) (nI (key m))) 67 (cnt s) (nI (s / 3))) 68 (cnt s) (nI (gg (s % 3)))).1 68 i = _
      rw [zup_ne (show (67 : Nat) ≠ 68 by omega), zup_at, zup_at, zup_ne (show (67 : Nat) ≠ 64 by omega), zup_ne (show (68 : Nat) ≠ 67 by omega), zup_ne (show (68 : Nat) ≠ 64 by omega), n1]
      by_cases e : i = cnt s
      · rw [if_pos e, if_pos e, e, c5, c6]
        exact ⟨rfl, rfl⟩
      · rw [if_neg e, if_neg e]
        exact hP i hi0 (by omega)
    · rw [zup_at]
      by_cases e : u = s
      · rw [e, if_pos rfl, hm, c3]
      · rw [if_neg (fun q => e (gg_inj q))]
        show (qv_upI (qv_upI (qv_upI M2 64 (cnt s) (nI (key m))) 67 (cnt s) (nI (s / 3))) 68 (cnt s) (nI (gg (s % 3)))).1 65 _ = _
        rw [zup_ne (by omega), zup_ne (by omega), zup_ne (by omega), n1]
        exact hB u (by omega)
theorem x_next {M : qv_Mem} {k g : Nat} (hk : k < 192) (hg : g < 7) (h : M.1 65 (7 * k + g) = nI (beh k g)) : f_X2_next qv_TT 63 (nI k) (nI g) M = some (nI (beh k g)) := by
  unfold f_X2_next
  rw [zt_cl.2.1, zl7, zi_mul, nI_add, zi_ldI (by omega) (by omega), Nat.mul_comm k 7, h]
def zbh (M : qv_Mem) (g n : Nat) : Prop := ∀ k, k < n → M.1 65 (7 * k + g) = nI (beh k g)
def zlf (M : qv_Mem) (g n : Nat) : Prop := ∀ k, k < n → M.1 66 (7 * k + g) = nI (lef k g)
theorem zbh_u {M : qv_Mem} {g n g2 k2 : Nat} {v : Int32} (h : zbh M g n) (hg : g < 7) (hg2 : g2 < 7) (hne : g ≠ g2) : zbh (qv_upI M 65 (7 * k2 + g2) v) g n := by
  intro k hk
  rw [zup_at, if_neg (by omega)]
  exact h k hk
theorem zbh_s {M : qv_Mem} {g n : Nat} (h : zbh M g n) : zbh (qv_upI M 65 (7 * n + g) (nI (beh n g))) g (n + 1) := by
  intro k hk
  rw [zup_at]
  by_cases e : k = n
  · rw [if_pos (by omega), e]
  · rw [if_neg (by omega)]
    exact h k (by omega)
theorem zlf_u {M : qv_Mem} {g n g2 k2 : Nat} {v : Int32} (h : zlf M g n) (hg : g < 7) (hg2 : g2 < 7) (hne : g ≠ g2) : zlf (qv_upI M 66 (7 * k2 + g2) v) g n := by
  intro k hk
  rw [zup_at, if_neg (by omega)]
  exact h k hk
theorem zlf_s {M : qv_Mem} {g n : Nat} (h : zlf M g n) : zlf (qv_upI M 66 (7 * n + g) (nI (lef n g))) g (n + 1) := by
  intro k hk
  rw [zup_at]
  by_cases e : k = n
  · rw [if_pos (by omega), e]
  · rw [if_neg (by omega)]
    exact h k (by omega)
theorem zl192 : (192 : Int32) = nI 192 := id rfl
/-- the five gates, what is held while they are taken away -/
def zHld (M : qv_Mem) : Prop := M.2.2 63 8 = nI 192 ∧ (∀ i, i < 192 → M.1 64 i = nI (key i)) ∧ (∀ i, 0 < i → i < 192 → M.1 67 i = nI (par i) ∧ M.1 68 i = nI (pgt i)) ∧ ∀ g ∈ pgs, zbh M g 192
theorem zHld_u {M : qv_Mem} {j : Nat} {v : Int32} (h : zHld M) : zHld (qv_upI M 66 j v) :=
  ⟨h.1, fun i hi => by rw [zup_ne (by omega)]; exact h.2.1 i hi, fun i h0 hi => by rw [zup_ne (by omega), zup_ne (by omega)]; exact h.2.2.1 i h0 hi, fun g hg k hk => by rw [zup_ne (by omega)]; exact h.2.2.2 g hg k hk⟩
theorem x_fillWithout {M : qv_Mem} {g : Nat} (hg : g ∈ pgs) (h : zHld M) : ∃ M1, f_X2_fillWithout qv_TT 63 (nI g) M = some M1 ∧ zHld M1 ∧ zlf M1 g 192 ∧ (∀ g2, g2 < 7 → g2 ≠ g → zlf M g2 192 → zlf M1 g2 192) ∧ zpf M M1 := by
  have g7 := pgs_lt hg
  have l0 := (cl_lef (show 0 < 192 by omega) hg).2
  unfold f_X2_fillWithout
  rw [zjn, zi_0]
  have key1 := zinv2 (b := b_X2_fillWithout_2 63 (nI g) qv_TT (fun M1 => qv_jn (fun (M3 : qv_Mem) => some M3) (fun k4 => qv_lp2 (b_X2_fillWithout_38 63 (nI g) qv_TT k4) qv_N 1 M1))) (k := (fun M1 => qv_jn (fun (M3 : qv_Mem) => some M3) (fun k4 => qv_lp2 (b_X2_fillWithout_38 63 (nI g) qv_TT k4) qv_N 1 M1))) (fun i N => zHld N ∧ (lef 0 g < i → N.1 66 (7 * 0 + g) = nI (lef 0 g)) ∧ (∀ g2, g2 < 7 → g2 ≠ g → zlf M g2 192 → zlf N g2 192) ∧ zpf M N) 0 192 (by omega) (fun i N r _ hi hN => ?_) (fun N r _ => ?_) qv_N (qv_N_gt _ (by omega)) M ⟨h, fun q => by omega, fun _ _ _ q => q, zpf.rf _⟩
  · obtain ⟨M1, ⟨a1, a2, a3, a4⟩, e1⟩ := key1
    rw [e1, zjn, zl1i]
    have key2 := zinv2 (b := b_X2_fillWithout_38 63 (nI g) qv_TT (fun (M3 : qv_Mem) => some M3)) (k := (fun (M3 : qv_Mem) => some M3)) (fun i N => zHld N ∧ zlf N g i ∧ (∀ g2, g2 < 7 → g2 ≠ g → zlf M g2 192 → zlf N g2 192) ∧ zpf M N) 1 192 (by omega) (fun i N r h1 hi hN => ?_) (fun N r _ => ?_) qv_N (qv_N_gt _ (by omega)) M1 ⟨a1, fun k hk => by rw [show k = 0 by omega]; exact a2 l0, a3, a4⟩
    · obtain ⟨M2, ⟨b1, b2, b3, b4⟩, e2⟩ := key2
      exact ⟨M2, e2, b1, b2, b3, b4⟩
    · obtain ⟨n1, n2, n3, n4⟩ := hN
      obtain ⟨w1, w2, w3, w4⟩ := cl_w hi (by omega)
      unfold b_X2_fillWithout_38
      have wl := (cl_lef (show par i < 192 by omega) hg).2
      rw [zl192, if_neg (zi_nle (a := 192) (b := i) (by omega) (by omega)), zt_cl.2.2.2.1, zt_cl.2.2.1, zt_cl.2.2.2.2.1, zi_ldI (by omega) (by omega), (n1.2.2.1 i (by omega) hi).1, zl7, zi_mul, nI_add, zi_ldI (by omega) (by omega), Nat.mul_comm (par i) 7, n2 (par i) w2, zi_ldI (by omega) (by omega), (n1.2.2.1 i (by omega) hi).2, x_next wl (pgs_lt w3) (n1.2.2.2 _ w3 _ wl), zbo, zi_mul, nI_add, zi_stI (by omega) (by omega), nI_1, Nat.mul_comm i 7, ← w1 g hg]
      exact ⟨_, ⟨zHld_u n1, zlf_s n2, fun g2 q1 q2 q3 => zlf_u (n3 g2 q1 q2 q3) q1 g7 q2, n4.tr (zpf_u (by omega))⟩, rfl⟩
    · unfold b_X2_fillWithout_38
      rw [zl192, if_pos (nI_le (Nat.le_refl _) (by omega))]
  · obtain ⟨n1, n2, n3, n4⟩ := hN
    unfold b_X2_fillWithout_2
    have z := cl_z hi hg
    rw [zl192, if_neg (zi_nle (a := 192) (b := i) (by omega) (by omega)), zt_cl.2.1, zt_cl.2.2.1, zl7, zi_mul, nI_add, zi_ldI (by omega) (by omega), Nat.mul_comm i 7, n1.2.2.2 g hg i hi, zjn, nI_1]
    have bl := (cl_beh hi hg).2
    by_cases c : beh i g = 0
    · rw [if_pos (by rw [c]; rfl), zi_stI (by omega) (by omega), show g = 7 * 0 + g by omega]
      have ci := z.mp c
      rw [show 7 * 0 + g = 7 * 0 + g from rfl]
      refine ⟨qv_upI N 66 (7 * 0 + g) (nI i), ⟨zHld_u n1, fun _ => ?_, fun g2 q1 q2 q3 => zlf_u (n3 g2 q1 (by omega) q3) q1 g7 (by omega), n4.tr (zpf_u (by omega))⟩, ?_⟩
      · rw [zup_at, if_pos (by omega), ci, show 7 * 0 + g = g by omega]
      · rfl
    · rw [if_neg (nI_ne0 (by omega) (by omega))]
      refine ⟨N, ⟨n1, fun q => n2 ?_, n3, n4⟩, rfl⟩
      by_cases e : i = lef 0 g
      · exact absurd (z.mpr e) c
      · omega
  · unfold b_X2_fillWithout_2
    rw [zl192, if_pos (nI_le (Nat.le_refl _) (by omega))]
/-! prepared -/
def zClP (M : qv_Mem) : Prop := M.2.2 63 8 = nI 192 ∧ (∀ i, i < 192 → M.1 64 i = nI (key i)) ∧ (∀ g ∈ pgs, zbh M g 192) ∧ ∀ g ∈ pgs, zlf M g 192
def zCl (M : qv_Mem) : Prop := M.2.2 63 8 = nI 0 ∨ zClP M
theorem zpg : ∀ i, i < 5 → qv_pg i = nI (pgs.getD i 0) ∧ pgs.getD i 0 ∈ pgs := by decide +kernel
theorem zpg_mem {g : Nat} (h : g ∈ pgs) : ∃ i, i < 5 ∧ pgs.getD i 0 = g := by
  unfold pgs at h
  simp at h
  rcases h with rfl | rfl | rfl | rfl | rfl
  · exact ⟨0, by omega, rfl⟩
  · exact ⟨1, by omega, rfl⟩
  · exact ⟨2, by omega, rfl⟩
  · exact ⟨3, by omega, rfl⟩
  · exact ⟨4, by omega, rfl⟩
theorem zpg_inj : ∀ i, i < 5 → ∀ j, j < 5 → pgs.getD i 0 = pgs.getD j 0 → i = j := by decide +kernel
theorem zi_ldP {α : Type} {i : Nat} (h : i < 5) (k : Int32 → Option α) : qv_ldP (nI i) k = k (nI (pgs.getD i 0)) := by
  unfold qv_ldP
  rw [if_pos (zi_in h (by omega)), zi_cl (by omega), (zpg i h).1]
theorem zkey_one : zkey zq_one = nI (key 0) := by rw [← cl_0]; exact zkey_cl (by omega)
def zBH (M : qv_Mem) : Prop := M.2.2 63 8 = nI 192 ∧ (∀ i, i < 192 → M.1 64 i = nI (key i)) ∧ ∀ i, 0 < i → i < 192 → M.1 67 i = nI (par i) ∧ M.1 68 i = nI (pgt i)
theorem zBH_u {M : qv_Mem} {j : Nat} {v : Int32} (h : zBH M) : zBH (qv_upI M 65 j v) :=
  ⟨h.1, fun i hi => by rw [zup_ne (by omega)]; exact h.2.1 i hi, fun i h0 hi => by rw [zup_ne (by omega), zup_ne (by omega)]; exact h.2.2 i h0 hi⟩
noncomputable def x_p162 (M10 : qv_Mem) : Option qv_Mem := qv_lp2 (b_X2_prepare_162 63 qv_TT (fun M12 => some M12)) qv_N 0 M10
noncomputable def x_p113 (M8 : qv_Mem) : Option qv_Mem := qv_lp2 (b_X2_prepare_113 63 qv_TT x_p162) qv_N 0 M8
noncomputable def x_p76 (M6 : qv_Mem) : Option qv_Mem := qv_lp2 (b_X2_prepare_76 63 qv_TT x_p113) qv_N 0 M6
theorem x_prep162 {M : qv_Mem} (h : zHld M) : ∃ M1, x_p162 M = some M1 ∧ zClP M1 ∧ zpf M M1 := by
  unfold x_p162
  rw [zi_0]
  have key1 := zinv2 (b := b_X2_prepare_162 63 qv_TT (fun M12 => some M12)) (k := (fun M12 => some M12)) (fun i N => zHld N ∧ (∀ j, j < i → zlf N (pgs.getD j 0) 192) ∧ zpf M N) 0 5 (by omega) (fun i N r _ hi hN => ?_) (fun N r _ => ?_) qv_N (qv_N_gt _ (by omega)) M ⟨h, fun j hj => by omega, zpf.rf _⟩
  · obtain ⟨M1, ⟨a1, a2, a3⟩, e1⟩ := key1
    refine ⟨M1, e1, ⟨a1.1, a1.2.1, a1.2.2.2, fun g hg => ?_⟩, a3⟩
    obtain ⟨i, hi, rfl⟩ := zpg_mem hg
    exact a2 i hi
  · obtain ⟨n1, n2, n3⟩ := hN
    unfold b_X2_prepare_162
    rw [zl5i, if_neg (zi_nle (a := 5) (b := i) (by omega) (by omega)), zi_ldP hi]
    obtain ⟨N1, c1, c2, c3, c4, c5⟩ := x_fillWithout (zpg i hi).2 n1
    rw [c1, zbo, nI_1]
    refine ⟨N1, ⟨c2, fun j hj => ?_, n3.tr c5⟩, rfl⟩
    by_cases e : j = i
    · rw [e]; exact c3
    · exact c4 _ (pgs_lt (zpg j (by omega)).2) (fun q => e (zpg_inj j (by omega) i hi q)) (n2 j (by omega))
  · unfold b_X2_prepare_162
    rw [zl5i, if_pos (nI_le (Nat.le_refl _) (by omega))]
theorem x_prep113 {M : qv_Mem} (h : zBH M) (h0 : zbh M 0 192) (h2 : zbh M 2 192) (h4 : zbh M 4 192) (h5 : zbh M 5 192) : ∃ M1, x_p113 M = some M1 ∧ zClP M1 ∧ zpf M M1 := by
  unfold x_p113
  rw [zi_0]
  have key1 := zinv2 (b := b_X2_prepare_113 63 qv_TT x_p162) (k := x_p162) (fun i N => zBH N ∧ zbh N 0 192 ∧ zbh N 2 192 ∧ zbh N 4 192 ∧ zbh N 5 192 ∧ zbh N 3 i ∧ zpf M N) 0 192 (by omega) (fun i N r _ hi hN => ?_) (fun N r _ => ?_) qv_N (qv_N_gt _ (by omega)) M ⟨h, h0, h2, h4, h5, fun j hj => by omega, zpf.rf _⟩
  · obtain ⟨M1, ⟨a1, a2, a3, a4, a5, a6, a7⟩, e1⟩ := key1
    have hH : zHld M1 := ⟨a1.1, a1.2.1, a1.2.2, fun g hg => by
      unfold pgs at hg
      simp at hg
      rcases hg with rfl | rfl | rfl | rfl | rfl
      · exact a2
      · exact a3
      · exact a6
      · exact a4
      · exact a5⟩
    obtain ⟨M2, e2, b1, b2⟩ := x_prep162 hH
    exact ⟨M2, e1.trans e2, b1, a7.tr b2⟩
  · obtain ⟨n1, n2, n3, n4, n5, n6, n7⟩ := hN
    unfold b_X2_prepare_113
    have b0 := (cl_beh hi (show 0 ∈ pgs by decide)).2
    have b4 := (cl_beh b0 (show 4 ∈ pgs by decide)).2
    have q := (cl_xz hi).2
    rw [zl192, if_neg (zi_nle (a := 192) (b := i) (by omega) (by omega)), zi_0, x_next hi (by omega) (n2 i hi), zbo, zl4, x_next b0 (by omega) (n4 _ b0), zbo, x_next b4 (by omega) (n2 _ b4), zbo, ← q, zt_cl.2.1, zl7, zi_mul, zl3, nI_add, zi_stI (by omega) (by omega), nI_1, Nat.mul_comm i 7]
    exact ⟨_, ⟨zBH_u n1, zbh_u n2 (by omega) (by omega) (by omega), zbh_u n3 (by omega) (by omega) (by omega), zbh_u n4 (by omega) (by omega) (by omega), zbh_u n5 (by omega) (by omega) (by omega), zbh_s n6, n7.tr (zpf_u (by omega))⟩, rfl⟩
  · unfold b_X2_prepare_113
    rw [zl192, if_pos (nI_le (Nat.le_refl _) (by omega))]
theorem x_prep76 {M : qv_Mem} (h : zBH M) (h0 : zbh M 0 192) (h2 : zbh M 2 192) (h5 : zbh M 5 192) : ∃ M1, x_p76 M = some M1 ∧ zClP M1 ∧ zpf M M1 := by
  unfold x_p76
  rw [zi_0]
  have key1 := zinv2 (b := b_X2_prepare_76 63 qv_TT x_p113) (k := x_p113) (fun i N => zBH N ∧ zbh N 0 192 ∧ zbh N 2 192 ∧ zbh N 5 192 ∧ zbh N 4 i ∧ zpf M N) 0 192 (by omega) (fun i N r _ hi hN => ?_) (fun N r _ => ?_) qv_N (qv_N_gt _ (by omega)) M ⟨h, h0, h2, h5, fun j hj => by omega, zpf.rf _⟩
  · obtain ⟨M1, ⟨a1, a2, a3, a4, a5, a6⟩, e1⟩ := key1
    obtain ⟨M2, e2, b1, b2⟩ := x_prep113 a1 a2 a3 a5 a4
    exact ⟨M2, e1.trans e2, b1, a6.tr b2⟩
  · obtain ⟨n1, n2, n3, n5, n6, n7⟩ := hN
    unfold b_X2_prepare_76
    have b2 := (cl_beh hi (show 2 ∈ pgs by decide)).2
    have q := (cl_xz hi).1
    rw [zl192, if_neg (zi_nle (a := 192) (b := i) (by omega) (by omega)), zl2i, x_next hi (by omega) (n3 i hi), zbo, x_next b2 (by omega) (n3 _ b2), zbo, ← q, zt_cl.2.1, zl7, zi_mul, zl4, nI_add, zi_stI (by omega) (by omega), nI_1, Nat.mul_comm i 7]
    exact ⟨_, ⟨zBH_u n1, zbh_u n2 (by omega) (by omega) (by omega), zbh_u n3 (by omega) (by omega) (by omega), zbh_u n5 (by omega) (by omega) (by omega), zbh_s n6, n7.tr (zpf_u (by omega))⟩, rfl⟩
  · unfold b_X2_prepare_76
    rw [zl192, if_pos (nI_le (Nat.le_refl _) (by omega))]
theorem zBF_b {M : qv_Mem} (h : zBF M 576) : zBH M ∧ zbh M 0 192 ∧ zbh M 2 192 ∧ zbh M 5 192 := by
  obtain ⟨h8, hK, hP, hB⟩ := h
  rw [cnt_576] at h8 hK hP
  refine ⟨⟨h8, hK, hP⟩, fun k hk => ?_, fun k hk => ?_, fun k hk => ?_⟩
  · have := hB (3 * k) (by omega)
    rw [show 3 * k / 3 = k by omega, show 3 * k % 3 = 0 by omega] at this
    exact this
  · have := hB (3 * k + 1) (by omega)
    rw [show (3 * k + 1) / 3 = k by omega, show (3 * k + 1) % 3 = 1 by omega] at this
    exact this
  · have := hB (3 * k + 2) (by omega)
    rw [show (3 * k + 2) / 3 = k by omega, show (3 * k + 2) % 3 = 2 by omega] at this
    exact this
theorem x_prepare {M : qv_Mem} (h : zCl M) : ∃ M1, f_X2_prepare qv_TT 63 M = some M1 ∧ zClP M1 ∧ zpf M M1 := by
  unfold f_X2_prepare
  rcases h with h | h
  · rw [zgS, h, if_pos (by decide), zt_cl.2.2.2.2.2.2.2.1, zt_cl.1]
    obtain ⟨M1, e1, h1, k1⟩ := z_makeUnit (t := 71) zt_cl.2.2.2.2.2.2.2.2.1 M
    rw [e1, zbo, x_keyOf zt_cl.2.2.2.2.2.2.2.2.1 h1 (zb_le (zq_ok.one.bd 1 (by decide)) (by decide)) (by decide), zbo, zi_0, zi_stI (by omega) (by omega), zpS, zjn, zkey_one]
    show ∃ M2, qv_lp2 (b_X2_prepare_35 63 qv_TT x_p76) qv_N (nI 0) (qv_upS (qv_upI M1 64 0 (nI (key 0))) 63 8 1) = some M2 ∧ _
    have b0 : zBF (qv_upS (qv_upI M1 64 0 (nI (key 0))) 63 8 1) 0 := by
      refine ⟨?_, fun i hi => ?_, fun i h0 hi => ?_, fun u hu => by omega⟩
      · rw [zs_at, cnt_0]; rfl
      · rw [cnt_0] at hi
        show (qv_upI M1 64 0 (nI (key 0))).1 64 i = _
        rw [zup_at, if_pos (by omega), show i = 0 by omega]
      · rw [cnt_0] at hi
        omega
    have key1 := zinv2 (b := b_X2_prepare_35 63 qv_TT x_p76) (k := x_p76) (fun k N => zBF N (3 * k) ∧ zpf M N) 0 192 (by omega) (fun k N r _ hk hN => ?_) (fun N r hN => ?_) qv_N (qv_N_gt _ (by omega)) _ ⟨b0, ((zpf_o k1).tr (zpf_u (by omega))).tr zpf_s⟩
    · obtain ⟨M2, ⟨a1, a2⟩, e2⟩ := key1
      obtain ⟨q1, q2, q3, q4⟩ := zBF_b a1
      obtain ⟨M3, e3, b1, b2⟩ := x_prep76 q1 q2 q3 q4
      exact ⟨M3, e2.trans e3, b1, a2.tr b2⟩
    · obtain ⟨n1, n2⟩ := hN
      unfold b_X2_prepare_35
      obtain ⟨d1, d2, -⟩ := cl_s (show 3 * k < 576 by omega)
      rw [show 3 * k / 3 = k by omega] at d2
      rw [zgS, n1.1, if_neg (nI_ge d2 (by omega)), zl192, if_neg (zi_nle (a := 192) (b := k) (by omega) (by omega))]
      obtain ⟨N1, c1, n3, n4⟩ := x_reach (show 3 * k < 576 by omega) n1
      rw [show 3 * k / 3 = k by omega, show gg (3 * k % 3) = 0 by rw [show 3 * k % 3 = 0 by omega]; rfl] at c1
      obtain ⟨N2, c2, n5, n6⟩ := x_reach (show 3 * k + 1 < 576 by omega) n3
      rw [show (3 * k + 1) / 3 = k by omega, show gg ((3 * k + 1) % 3) = 2 by rw [show (3 * k + 1) % 3 = 1 by omega]; rfl] at c2
      obtain ⟨N3, c3, n7, n8⟩ := x_reach (show 3 * k + 1 + 1 < 576 by omega) n5
      rw [show (3 * k + 1 + 1) / 3 = k by omega, show gg ((3 * k + 1 + 1) % 3) = 5 by rw [show (3 * k + 1 + 1) % 3 = 2 by omega]; rfl] at c3
      rw [zi_0, c1, zbo, zl2i, c2, zbo, zl5i, c3, zbo, nI_1]
      rw [show 3 * k + 1 + 1 + 1 = 3 * (k + 1) by omega] at n7
      exact ⟨N3, ⟨n7, ((n2.tr n4).tr n6).tr n8⟩, rfl⟩
    · unfold b_X2_prepare_35
      rw [zgS, hN.1.1, show 3 * 192 = 576 from rfl, cnt_576, if_pos (nI_le (Nat.le_refl _) (by omega))]
  · rw [zgS, h.1, if_neg (by decide)]
    exact ⟨M, rfl, h, zpf.rf _⟩
theorem x_find {t p : Nat} (hp : qv_rf qv_TT t 0 = p) {M : qv_Mem} {A : zq_T} (h : zClP M) (hA : zT M t p A) (hb : zb A.1 2305843009213693952) (he : A.2 < 1000) : f_X2_find qv_TT 63 t M = some (cix A 192) := by
  unfold f_X2_find
  rw [x_keyOf hp hA hb he, zbo, x_findKey (Nat.le_refl _) h.1 h.2.1, zbo]
