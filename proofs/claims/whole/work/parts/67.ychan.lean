/-! Channels: the reference. -/
theorem zt_cx : qv_rf qv_TT 106 10 = 116 := by decide +kernel
theorem zt_cy : qv_rf qv_TT 106 11 = 117 := by decide +kernel
theorem zl17 : (17 : Int32) = nI 17 := id rfl
theorem zl11 : (11 : Int32) = nI 11 := id rfl
def zsc (M M1 : qv_Mem) (S : Nat → Prop) : Prop := M1.1 = M.1 ∧ M1.2.2 = M.2.2 ∧ (∀ a, (a < 107 ∨ 117 < a ∨ (107 < a ∧ a < 116)) → M1.2.1 a = M.2.1 a) ∧ ∀ s, ¬ S s → ∀ j, j < 17 → M1.2.1 107 (17 * s + j) = M.2.1 107 (17 * s + j)
theorem zsc.rf (M : qv_Mem) (S : Nat → Prop) : zsc M M S := ⟨rfl, rfl, fun _ _ => rfl, fun _ _ _ _ => rfl⟩
theorem zsc.tr {M M1 M2 : qv_Mem} {S : Nat → Prop} (h : zsc M M1 S) (k : zsc M1 M2 S) : zsc M M2 S := ⟨k.1.trans h.1, k.2.1.trans h.2.1, fun a ha => (k.2.2.1 a ha).trans (h.2.2.1 a ha), fun s hs j hj => (k.2.2.2 s hs j hj).trans (h.2.2.2 s hs j hj)⟩
theorem zsc.mono {M M1 : qv_Mem} {S S1 : Nat → Prop} (h : zsc M M1 S) (k : ∀ s, S s → S1 s) : zsc M M1 S1 := ⟨h.1, h.2.1, h.2.2.1, fun s hs => h.2.2.2 s (fun q => hs (k s q))⟩
theorem zso.sc {M M1 : qv_Mem} {S S1 : Nat → Prop} (h : zso M M1 107 S) (k : ∀ s, S s → S1 s) : zsc M M1 S1 := ⟨h.1, h.2.1, fun a ha => h.2.2.1 a (by omega), fun s hs => h.2.2.2 s (fun q => hs (k s q))⟩
theorem zlo.sc {M M1 : qv_Mem} {S1 : Nat → Prop} (h : zlo M M1 (fun a => a = 116 ∨ a = 117)) : zsc M M1 S1 := ⟨h.1, h.2.1, fun a ha => h.2.2 a (by omega), fun s _ j _ => by rw [h.2.2 107 (by omega)]⟩
theorem zS.sc {M M1 : qv_Mem} {s : Nat} {A : zq_T} {S : Nat → Prop} (h : zS M 107 s A) (k : zsc M M1 S) (hs : ¬ S s) : zS M1 107 s A := by
  refine ⟨fun j hj => ?_, ?_⟩
  · show M1.2.1 107 (17 * s + j) = _
    rw [k.2.2.2 s hs j (by omega)]
    exact h.1 j hj
  · rw [k.2.2.2 s hs 16 (by omega)]
    exact h.2
theorem zMC.sc {M M1 : qv_Mem} {S : Nat → Prop} (h : zMC M) (k : zsc M M1 S) (hs : ∀ s, 4 ≤ s → s ≤ 14 → ¬ S s) : zMC M1 :=
  ⟨fun g hg => (h.1 g hg).sc k (hs _ (by omega) (by omega)), h.2.1.sc k (hs _ (by omega) (by omega)), h.2.2.1.sc k (hs _ (by omega) (by omega)), h.2.2.2.1.sc k (hs _ (by omega) (by omega)), h.2.2.2.2.sc k (hs _ (by omega) (by omega))⟩
theorem zMR.sc {M M1 : qv_Mem} {S : Nat → Prop} {R : Nat → zq_T} (h : zMR M R) (k : zsc M M1 S) (hs : ∀ s, s < 4 → ¬ S s) : zMR M1 R := fun r hr => (h r hr).sc k (hs r hr)
theorem zMC.sg {M : qv_Mem} (h : zMC M) {i : Nat} (hi : i < 3) : zS M 107 (11 + i) (sg i, 0) := by
  match i, hi with
  | 0, _ => exact h.2.1
  | 1, _ => exact h.2.2.1
  | 2, _ => exact h.2.2.2.1
  | i + 3, hi => omega
theorem y_chlow (k : Int32 → qv_Mem → Option (Int32 × qv_Mem)) : ∀ (f g : Nat) (M : qv_Mem) (V : Nat → Int × Int), chM M 116 117 V → chb V → f < 1000 → f + 1 < g → ∃ M1, qv_lp3 (b_X10_channels_116 106 qv_TT k) g (nI f) 1 M = k (nI (chl f V).2) M1 ∧ chM M1 116 117 (chl f V).1 ∧ zlo M M1 (fun a => a = 116 ∨ a = 117) := by
  intro f
  induction f with
  | zero =>
    intro g M V hM hb h1 h2
    obtain ⟨g, rfl⟩ : ∃ x, g = x + 1 := ⟨g - 1, by omega⟩
    show ∃ M1, b_X10_channels_116 106 qv_TT k (qv_lp3 (b_X10_channels_116 106 qv_TT k) g) (nI 0) 1 M = _ ∧ _
    unfold b_X10_channels_116
    rw [if_neg zl1n0, if_pos (show nI 0 ≤ 0 by decide)]
    exact ⟨M, rfl, hM, zlo.rf _ _⟩
  | succ f ih =>
    intro g M V hM hb h1 h2
    obtain ⟨g, rfl⟩ : ∃ x, g = x + 1 := ⟨g - 1, by omega⟩
    show ∃ M1, b_X10_channels_116 106 qv_TT k (qv_lp3 (b_X10_channels_116 106 qv_TT k) g) (nI (f + 1)) 1 M = _ ∧ _
    have ih1 := ih g
    have z0 : ∀ v N, qv_lp3 (b_X10_channels_116 106 qv_TT k) g v 0 N = k v N := by
      intro v N
      obtain ⟨g, rfl⟩ : ∃ x, g = x + 1 := ⟨g - 1, by omega⟩
      show b_X10_channels_116 106 qv_TT k (qv_lp3 (b_X10_channels_116 106 qv_TT k) g) v 0 N = _
      unfold b_X10_channels_116
      rw [if_pos rfl]
    generalize qv_lp3 (b_X10_channels_116 106 qv_TT k) g = rr at ih1 z0 ⊢
    unfold b_X10_channels_116
    rw [if_neg zl1n0, if_neg (show ¬ nI (f + 1) ≤ 0 from zi_nle (a := f + 1) (b := 0) (by omega) (by omega)), zjn]
    have key := zfor2c (b := b_X10_channels_127 106 qv_TT M (fun (v12 : Int32) => qv_jn (fun (M14 : qv_Mem) => qv_jn (fun (v16 : Int32) => rr (nI (f + 1) - v16) v12 M14) (fun k17 => (if v12 = 0 then k17 0 else k17 1))) (fun k15 => qv_lp2 (b_X10_channels_167 106 qv_TT v12 k15) qv_N 0 M))) (o := (fun (v12 : Int32) => qv_jn (fun (M14 : qv_Mem) => qv_jn (fun (v16 : Int32) => rr (nI (f + 1) - v16) v12 M14) (fun k17 => (if v12 = 0 then k17 0 else k17 1))) (fun k15 => qv_lp2 (b_X10_channels_167 106 qv_TT v12 k15) qv_N 0 M)) (y_b2i (che V 9))) (fun i => y_b2i (che V i)) (fun i => nI i) 0 9 (by omega) (fun i r _ hi => ?_) (fun r => ?_) qv_N (qv_N_gt _ (by omega))
    · have e0 : qv_lp2 (b_X10_channels_127 106 qv_TT M (fun (v12 : Int32) => qv_jn (fun (M14 : qv_Mem) => qv_jn (fun (v16 : Int32) => rr (nI (f + 1) - v16) v12 M14) (fun k17 => (if v12 = 0 then k17 0 else k17 1))) (fun k15 => qv_lp2 (b_X10_channels_167 106 qv_TT v12 k15) qv_N 0 M))) qv_N 1 0 = _ := key
      rw [e0]
      unfold chl
      by_cases c : che V 9 = true
      · rw [c, if_pos rfl]
        show ∃ M1, qv_jn (fun (M14 : qv_Mem) => qv_jn (fun (v16 : Int32) => rr (nI (f + 1) - v16) 1 M14) (fun k17 => (if (1 : Int32) = 0 then k17 0 else k17 1))) (fun k15 => qv_lp2 (b_X10_channels_167 106 qv_TT 1 k15) qv_N 0 M) = _ ∧ _
        rw [zjn, zi_0]
        have key2 := zinv2 (b := b_X10_channels_167 106 qv_TT 1 (fun (M14 : qv_Mem) => qv_jn (fun (v16 : Int32) => rr (nI (f + 1) - v16) 1 M14) (fun k17 => (if (1 : Int32) = nI 0 then k17 (nI 0) else k17 1)))) (k := (fun (M14 : qv_Mem) => qv_jn (fun (v16 : Int32) => rr (nI (f + 1) - v16) 1 M14) (fun k17 => (if (1 : Int32) = nI 0 then k17 (nI 0) else k17 1)))) (fun j N => chH N 116 117 V j ∧ zlo M N (fun a => a = 116 ∨ a = 117)) 0 9 (by omega) (fun j N r2 _ hj hN => ?_) (fun N r2 _ => ?_) qv_N (qv_N_gt _ (by omega)) M ⟨chH_0 hM, zlo.rf _ _⟩
        · obtain ⟨N, ⟨q1, q2⟩, q3⟩ := key2
          rw [q3, zjn, if_neg (show ¬ (1 : Int32) = nI 0 from zl1n0)]
          dsimp only
          rw [zi_ps]
          obtain ⟨M1, c1, c2, c3⟩ := ih1 N (chd V) (chH_9 q1) (chb_d hb) (by omega) (by omega)
          exact ⟨M1, c1, c2, q2.tr c3⟩
        · obtain ⟨n1, n2⟩ := hN
          unfold b_X10_channels_167
          rw [zl9, if_neg (zi_nle (a := 9) (b := j) (by omega) (by omega)), if_neg zl1n0, zt_cx, zt_cy, zi_ldL (by omega) (by omega), zi_ldL (by omega) (by omega), zi_stL (by omega) (by omega), zi_stL (by omega) (by omega), nI_1]
          exact ⟨_, ⟨chH_step (by omega) hj hb c n1, (n2.tr (zlo_u (Or.inl rfl))).tr (zlo_u (Or.inr rfl))⟩, rfl⟩
        · unfold b_X10_channels_167
          rw [zl9, if_pos (nI_le (Nat.le_refl _) (by omega))]
      · have c' : che V 9 = false := by rwa [Bool.not_eq_true] at c
        rw [c', if_neg (by decide)]
        show ∃ M1, qv_jn (fun (M14 : qv_Mem) => qv_jn (fun (v16 : Int32) => rr (nI (f + 1) - v16) 0 M14) (fun k17 => (if (0 : Int32) = 0 then k17 0 else k17 1))) (fun k15 => qv_lp2 (b_X10_channels_167 106 qv_TT 0 k15) qv_N 0 M) = _ ∧ _
        rw [zjn]
        obtain ⟨N, hN⟩ : ∃ g, qv_N = g + 1 := ⟨qv_N - 1, by have := qv_N_gt 5 (by omega); omega⟩
        rw [hN, zN2]
        unfold b_X10_channels_167
        rw [if_neg (show ¬ (9 : Int32) ≤ 0 by decide), if_pos rfl]
        dsimp only
        rw [zjn, if_pos rfl]
        dsimp only
        rw [z0, show nI (f + 1) - 0 = nI (f + 1) by simp]
        exact ⟨M, rfl, hM, zlo.rf _ _⟩
    · unfold b_X10_channels_127
      dsimp only
      rw [zl9, if_neg (zi_nle (a := 9) (b := i) (by omega) (by omega)), zt_cx, zi_ldL (by omega) (by omega), (hM i hi).1, zjn, nI_1]
      have e : (lg_cmp (Int64.ofInt (V i).1 - Int64.ofInt (V i).1 / 2 * 2) 0 = 0) = ((V i).1 % 2 = 0) := by
        rw [lg_cmp_eq, ze_rem2, ze_ofInt_mod]
      show _ = r (y_b2i (che V i && decide ((V i).1 % 2 = 0))) _
      rw [← y_and]
      by_cases d : (V i).1 % 2 = 0
      · rw [if_pos (by rw [e]; exact d), decide_eq_true d]
        rfl
      · rw [if_neg (by rw [e]; exact d), decide_eq_false d]
        rfl
    · unfold b_X10_channels_127
      dsimp only
      rw [zl9, if_pos (nI_le (Nat.le_refl _) (by omega))]
theorem zi_d3 : ∀ k, k < 9 → nI k / 3 = nI (k / 3) ∧ nI k - nI k / 3 * 3 = nI (k % 3) := by decide +kernel
theorem y_channels {s : Nat} (hs : s < 19) (hs2 : s ≠ 16) (hs3 : s ≠ 17) {M : qv_Mem} {A : zq_T} (hA : zS M 107 s A) (hK : zMC M) (oA : zq_ok A) (eA : A.2 ≤ 50) : ∃ M1, f_X10_channels qv_TT 106 (nI s) M = some (nI (chA A).2, M1) ∧ chM M1 116 117 (chA A).1 ∧ zsc M M1 (fun x => x = 16 ∨ x = 17 ∨ x = 19) := by
  unfold f_X10_channels
  obtain ⟨M1, e1, h1, k1⟩ := y_turns zt_tab (c := 16) (by omega) hs hA (by omega)
  rw [zl16, e1, zbo, zjn, zi_0]
  have key := zinv2 (b := b_X10_channels_9 106 (nI s) qv_TT (fun (M2 : qv_Mem) => qv_bo (f_X10_eOf qv_TT 106 (nI s) M2) (fun v4 => qv_jn (fun (v5 : Int32) (M6 : qv_Mem) => some (v5, M6)) (fun k7 => qv_lp3 (b_X10_channels_116 106 qv_TT k7) qv_N ((2 * v4) + 2) 1 M2)))) (k := (fun (M2 : qv_Mem) => qv_bo (f_X10_eOf qv_TT 106 (nI s) M2) (fun v4 => qv_jn (fun (v5 : Int32) (M6 : qv_Mem) => some (v5, M6)) (fun k7 => qv_lp3 (b_X10_channels_116 106 qv_TT k7) qv_N ((2 * v4) + 2) 1 M2)))) (fun k N => (∀ i, i < k → N.2.1 116 i = Int64.ofInt (chV A.1 i).1 ∧ N.2.1 117 i = Int64.ofInt (chV A.1 i).2) ∧ zS N 107 16 (zq_ct A) ∧ zsc M N (fun x => x = 16 ∨ x = 17 ∨ x = 19)) 0 9 (by omega) (fun k N r _ hk hN => ?_) (fun N r _ => ?_) qv_N (qv_N_gt _ (by omega)) M1 ⟨fun i hi => by omega, h1, k1.sc (fun x hx => by omega)⟩
  · obtain ⟨N, ⟨q1, q2, q3⟩, q4⟩ := key
    rw [q4, y_eOf zt_tab (by omega) (hA.sc q3 (by omega)) (by omega), zbo, zjn, zl2i, zi_mul, nI_add]
    obtain ⟨M2, e2, h2, k2⟩ := y_chlow (fun (v5 : Int32) (M6 : qv_Mem) => some (v5, M6)) (2 * A.2 + 2) qv_N N (chV A.1) q1 (chV_b oA eA) (by omega) (qv_N_gt _ (by omega))
    exact ⟨M2, e2, h2, q3.tr k2.sc⟩
  · obtain ⟨n1, n2, n3⟩ := hN
    have d3 := zi_d3 k hk
    unfold b_X10_channels_9
    rw [zl9, if_neg (zi_nle (a := 9) (b := k) (by omega) (by omega)), d3.1, ← d3.1, d3.2, d3.1, zl11, nI_add, nI_add, zl17, zl16]
    have hK2 := hK.sc n3 (fun x _ _ => by omega)
    have hA2 := hA.sc n3 (by omega)
    obtain ⟨N1, c1, d1, g1⟩ := y_plainly zt_tab (c := 17) (a := 11 + k / 3) (b := s) (by omega) (by omega) hs (hK2.sg (i := k / 3) (by omega)) hA2 (by show (0 : Nat) < _; omega) (by omega)
    rw [c1, zbo]
    have hK3 := hK2.kept g1 (fun x _ _ => by omega)
    obtain ⟨N2, c2, d2, g2⟩ := y_plainly zt_tab (c := 17) (a := 17) (b := 11 + k % 3) (by omega) (by omega) (by omega) d1 (hK3.sg (i := k % 3) (by omega)) (show 0 + A.2 < 1000000 by omega) (show (0 : Nat) < 1000000 by omega)
    rw [c2, zbo]
    have n2' := (n2.kept g1 (by omega)).kept g2 (by omega)
    obtain ⟨N3, c3, d4, g3⟩ := y_plainly zt_tab (c := 17) (a := 17) (b := 16) (by omega) (by omega) (by omega) d2 n2' (show 0 + A.2 + 0 < 1000000 by omega) (show A.2 < 1000000 by omega)
    have n2'' := n2'.kept g3 (by omega)
    rw [c3, zbo]
    have hF := y_sat4 d4.1 (i := 0) (by omega)
    have hG := y_sat4 d4.1 (i := 3) (by omega)
    have u : (zq_pm (zq_pm (zq_pm (sg (k / 3), 0) A) (sg (k % 3), 0)) (zq_ct A)).1 = zq_pmF (zq_pmF (zq_pmF (sg (k / 3)) A.1) (sg (k % 3))) (zq_ctF A.1) := rfl
    have tr := chN_ref A.1 (k / 3) (k % 3)
    rw [← u] at tr
    generalize (zq_pm (zq_pm (zq_pm (sg (k / 3), 0) A) (sg (k % 3), 0)) (zq_ct A)).1 = F at hF hG tr
    have x1 : Int64.ofInt F.1.1 + Int64.ofInt F.2.2.2.1 = Int64.ofInt (chV A.1 k).1 := by
      rw [← Int64.ofInt_add]
      show _ = Int64.ofInt (chN A.1 (k / 3) (k % 3)).1
      rw [← tr]
      rfl
    have y1 : Int64.ofInt F.1.2.1 + Int64.ofInt F.2.2.2.2.1 = Int64.ofInt (chV A.1 k).2 := by
      rw [← Int64.ofInt_add]
      show _ = Int64.ofInt (chN A.1 (k / 3) (k % 3)).2.1
      rw [← tr]
      rfl
    have m1 : ∀ (v : Int64), (qv_upL N3 116 k v).2.1 107 = N3.2.1 107 := fun v => zul_ne (by omega)
    rw [zi_0, y_at zt_tab N3 (by omega), zbo, zl3, y_at zt_tab N3 (by omega), zbo, zt_cx, zi_stL (by omega) (by omega), zl1i, y_at zt_tab _ (by omega), zbo, y_at zt_tab _ (by omega), zbo, zt_cy, zi_stL (by omega) (by omega), m1, nI_add, hF.1, hG.1, hF.2.1, hG.2.1]
    have w1 : Int64.ofInt (zk F 0).1 + Int64.ofInt (zk F 3).1 = Int64.ofInt (chV A.1 k).1 := x1
    have w2 : Int64.ofInt (zk F 0).2.1 + Int64.ofInt (zk F 3).2.1 = Int64.ofInt (chV A.1 k).2 := y1
    rw [w1, w2]
    have lo : zlo N3 (qv_upL (qv_upL N3 116 k (Int64.ofInt (chV A.1 k).1)) 117 k (Int64.ofInt (chV A.1 k).2)) (fun a => a = 116 ∨ a = 117) := (zlo_u (Or.inl rfl)).tr (zlo_u (Or.inr rfl))
    have sc : zsc M N3 (fun x => x = 16 ∨ x = 17 ∨ x = 19) := ((n3.tr (g1.sc (fun x hx => by omega))).tr (g2.sc (fun x hx => by omega))).tr (g3.sc (fun x hx => by omega))
    refine ⟨_, ⟨fun i hi => ?_, ?_, sc.tr lo.sc⟩, rfl⟩
    · have o1 : N3.2.1 116 = N.2.1 116 := by rw [g3.2.2.1 _ (by omega), g2.2.2.1 _ (by omega), g1.2.2.1 _ (by omega)]
      have o2 : N3.2.1 117 = N.2.1 117 := by rw [g3.2.2.1 _ (by omega), g2.2.2.1 _ (by omega), g1.2.2.1 _ (by omega)]
      rw [zul_ne (show (116 : Nat) ≠ 117 by omega), zul_at, zul_at, zul_ne (show (117 : Nat) ≠ 116 by omega), o1, o2]
      by_cases e : i = k
      · rw [if_pos e, if_pos e, e]
        exact ⟨rfl, rfl⟩
      · rw [if_neg e, if_neg e]
        exact n1 i (by omega)
    · exact n2''.sc (S := fun _ => False) lo.sc (fun q => q)
  · unfold b_X10_channels_9
    rw [zl9, if_pos (nI_le (Nat.le_refl _) (by omega))]
theorem y_channel {M : qv_Mem} {R : Nat → zq_T} (hC : zMR M R) (hK : zMC M) (hR : zRk R) (p q s w : Int32) : ∃ M1, f_X10_channel qv_TT 106 p q s w M = some (a_channel R p q s w, M1) ∧ zMR M1 R ∧ zMC M1 ∧ zsc M M1 (fun x => x = 16 ∨ x = 17 ∨ x = 19) := by
  unfold f_X10_channel a_channel
  rcases zr_in p 4 with ⟨r, hr, r2, rfl⟩ | h
  · rw [y_isReg hr, zbo, zjn, if_neg zl1n0, if_neg (zr_n hr r2)]
    rcases zr_in q 3 with ⟨i, hi, i2, rfl⟩ | h
    · rw [y_in hi (by omega) (by decide), zbo, if_neg zl1n0, if_neg (zr_n hi i2)]
      rcases zr_in s 3 with ⟨j, hj, j2, rfl⟩ | h
      · rw [y_in hj (by omega) (by decide), zbo, if_neg zl1n0, if_neg (zr_n hj j2)]
        rcases zr_in w 2 with ⟨v, hv, v2, rfl⟩ | h
        · have e40 := (hR r hr).2
          rw [y_in hv (by omega) (by decide), zbo, if_neg zl1n0, if_neg (zr_n hv v2), zi_cl r2, zi_cl i2, zi_cl j2]
          obtain ⟨M1, e1, h1, k1⟩ := y_channels (s := r) (by omega) (by omega) (by omega) (hC r hr) hK (hR r hr).1 (by omega)
          rw [e1, zbp, zt_cx, zt_cy, zl3, zi_mul, nI_add, zi_ldL (by omega) (by omega), zi_ldL (by omega) (by omega), (h1 _ (by omega)).1, (h1 _ (by omega)).2]
          refine ⟨M1, ?_, hC.sc k1 (fun x _ => by omega), hK.sc k1 (fun x _ _ => by omega), k1⟩
          by_cases c : nI v = 0
          · rw [if_pos c, if_pos c]
          · rw [if_neg c, if_neg c]
        · rw [y_in0 h (by decide), zbo, if_pos rfl, if_pos h]
          exact ⟨M, rfl, hC, hK, zsc.rf _ _⟩
      · rw [y_in0 h (by decide), zbo, if_pos rfl, if_pos h]
        exact ⟨M, rfl, hC, hK, zsc.rf _ _⟩
    · rw [y_in0 h (by decide), zbo, if_pos rfl, if_pos h]
      exact ⟨M, rfl, hC, hK, zsc.rf _ _⟩
  · rw [y_isReg0 h, zbo, zjn, if_pos rfl, if_pos h]
    exact ⟨M, rfl, hC, hK, zsc.rf _ _⟩
theorem y_count {M : qv_Mem} {R : Nat → zq_T} (hC : zMR M R) (hK : zMC M) (hR : zRk R) (p : Int32) : ∃ M1, f_X10_count qv_TT 106 p M = some (a_count R p, M1) ∧ zMR M1 R ∧ zMC M1 ∧ zsc M M1 (fun x => x = 16 ∨ x = 17 ∨ x = 19) := by
  unfold f_X10_count a_count
  rcases zr_in p 4 with ⟨r, hr, r2, rfl⟩ | h
  · have e40 := (hR r hr).2
    rw [y_isReg hr, zbo, if_neg zl1n0, if_neg (zr_n hr r2), zi_cl r2]
    obtain ⟨M1, e1, h1, k1⟩ := y_channels (s := r) (by omega) (by omega) (by omega) (hC r hr) hK (hR r hr).1 (by omega)
    rw [e1, zbp]
    exact ⟨M1, rfl, hC.sc k1 (fun x _ => by omega), hK.sc k1 (fun x _ _ => by omega), k1⟩
  · rw [y_isReg0 h, zbo, if_pos rfl, if_pos h]
    exact ⟨M, rfl, hC, hK, zsc.rf _ _⟩
