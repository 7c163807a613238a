/-! The 192: the reference finds them. -/
def ywf (M M1 : qv_Mem) : Prop := (∀ a, a ≠ 118 → a ≠ 119 → M1.1 a = M.1 a) ∧ (∀ a, a ≠ 107 → a ≠ 108 → M1.2.1 a = M.2.1 a) ∧ (∀ s, s ≠ 15 → s ≠ 16 → s ≠ 19 → ∀ j, j < 17 → M1.2.1 107 (17 * s + j) = M.2.1 107 (17 * s + j)) ∧ ∀ a k, ¬ (a = 106 ∧ k = 14) → M1.2.2 a k = M.2.2 a k
theorem ywf.rf (M : qv_Mem) : ywf M M := ⟨fun _ _ _ => rfl, fun _ _ _ => rfl, fun _ _ _ _ _ _ => rfl, fun _ _ _ => rfl⟩
theorem ywf.tr {M M1 M2 : qv_Mem} (h : ywf M M1) (k : ywf M1 M2) : ywf M M2 := ⟨fun a h1 h2 => (k.1 a h1 h2).trans (h.1 a h1 h2), fun a h1 h2 => (k.2.1 a h1 h2).trans (h.2.1 a h1 h2), fun s h1 h2 h3 j hj => (k.2.2.1 s h1 h2 h3 j hj).trans (h.2.2.1 s h1 h2 h3 j hj), fun a b hb => (k.2.2.2 a b hb).trans (h.2.2.2 a b hb)⟩
theorem ywf_so {M M1 : qv_Mem} {S : Nat → Prop} (h : zso M M1 107 S) (hS : ∀ s, S s → s = 15 ∨ s = 16 ∨ s = 19) : ywf M M1 := ⟨fun a _ _ => congrFun h.1 a, fun a h1 _ => h.2.2.1 a h1, fun s h1 h2 h3 j hj => h.2.2.2 s (fun q => by have := hS s q; omega) j hj, fun a k _ => by rw [h.2.1]⟩
theorem ywf_u {M : qv_Mem} {p j : Nat} {v : Int32} (h : p = 118 ∨ p = 119) : ywf M (qv_upI M p j v) := ⟨fun a h1 h2 => zup_ne (by omega), fun _ _ _ => rfl, fun _ _ _ _ _ _ => rfl, fun _ _ _ => rfl⟩
theorem ywf.slot {M M1 : qv_Mem} (h : ywf M M1) {s : Nat} {A : zq_T} (q : zS M 107 s A) (h1 : s ≠ 15) (h2 : s ≠ 16) (h3 : s ≠ 19) : zS M1 107 s A := by
  refine ⟨fun j hj => ?_, ?_⟩
  · show M1.2.1 107 (17 * s + j) = _
    rw [h.2.2.1 s h1 h2 h3 j (by omega)]
    exact q.1 j hj
  · rw [h.2.2.1 s h1 h2 h3 16 (by omega)]
    exact q.2
theorem ywf.mc {M M1 : qv_Mem} (h : ywf M M1) (q : zMC M) : zMC M1 :=
  ⟨fun g hg => h.slot (q.1 g hg) (by omega) (by omega) (by omega), h.slot q.2.1 (by omega) (by omega) (by omega), h.slot q.2.2.1 (by omega) (by omega) (by omega), h.slot q.2.2.2.1 (by omega) (by omega) (by omega), h.slot q.2.2.2.2 (by omega) (by omega) (by omega)⟩
theorem ywf.mr {M M1 : qv_Mem} {R : Nat → zq_T} (h : ywf M M1) (q : zMR M R) : zMR M1 R := fun r hr => h.slot (q r hr) (by omega) (by omega) (by omega)
def y_sv (F G : Nat → Int64) (c s n : Nat) : Nat → Int64 := fun j => if 17 * c ≤ j ∧ j < 17 * c + n then G (17 * s + (j - 17 * c)) else F j
theorem y_saves {M : qv_Mem} {c s : Nat} (hc : c < 192) (hs : s < 20) (h14 : M.2.2 106 14 = nI c) {A : zq_T} (h : zS M 107 s A) : ∃ M1, f_X10_saves qv_TT 106 (nI s) M = some M1 ∧ zS M1 108 c A ∧ (∀ k B, k ≠ c → zS M 108 k B → zS M1 108 k B) ∧ M1.2.2 106 14 = nI (c + 1) ∧ ywf M M1 := by
  unfold f_X10_saves
  rw [zjn, zi_0]
  have key1 := zfor2 (b := b_X10_saves_2 106 (nI s) qv_TT (fun (M1 : qv_Mem) => qv_gS 106 14 M1 (fun v3 => qv_pS 106 14 (v3 + 1) M1 (fun M4 => some M4)))) (k := (fun (M1 : qv_Mem) => qv_gS 106 14 M1 (fun v3 => qv_pS 106 14 (v3 + 1) M1 (fun M4 => some M4)))) (fun i => zf M 108 (y_sv (M.2.1 108) (M.2.1 107) c s i)) 0 17 (by omega) (fun i r _ hi => ?_) (fun r => ?_) qv_N (qv_N_gt _ (by omega))
  · have e0 : zf M 108 (y_sv (M.2.1 108) (M.2.1 107) c s 0) = M := by
      have : y_sv (M.2.1 108) (M.2.1 107) c s 0 = M.2.1 108 := by
        funext j
        unfold y_sv
        rw [if_neg (by omega)]
      rw [this, zf_self]
    rw [e0] at key1
    rw [key1, zgS, zpS, zf_s, h14, nI_1]
    refine ⟨_, rfl, ⟨fun j hj => ?_, ?_⟩, fun k B hk q => ⟨fun j hj => ?_, ?_⟩, zs_at _ _ _ _, fun a _ _ => rfl, fun a h1 h2 => ?_, fun x h1 h2 h3 j hj => ?_, fun a k hk => zs_ne2 hk⟩
    · show (zf M 108 (y_sv (M.2.1 108) (M.2.1 107) c s 17)).2.1 108 (17 * c + j) = _
      rw [zf_at]
      unfold y_sv
      rw [if_pos (by omega), show 17 * c + j - 17 * c = j by omega]
      exact h.1 j hj
    · show (zf M 108 (y_sv (M.2.1 108) (M.2.1 107) c s 17)).2.1 108 (17 * c + 16) = _
      rw [zf_at]
      unfold y_sv
      rw [if_pos (by omega), show 17 * c + 16 - 17 * c = 16 by omega]
      exact h.2
    · show (zf M 108 (y_sv (M.2.1 108) (M.2.1 107) c s 17)).2.1 108 (17 * k + j) = _
      rw [zf_at]
      unfold y_sv
      rw [if_neg (by omega)]
      exact q.1 j hj
    · show (zf M 108 (y_sv (M.2.1 108) (M.2.1 107) c s 17)).2.1 108 (17 * k + 16) = _
      rw [zf_at]
      unfold y_sv
      rw [if_neg (by omega)]
      exact q.2
    · show (zf M 108 (y_sv (M.2.1 108) (M.2.1 107) c s 17)).2.1 a = _
      rw [zf_ne' h2]
    · show (zf M 108 (y_sv (M.2.1 108) (M.2.1 107) c s 17)).2.1 107 _ = _
      rw [zf_ne' (by omega)]
  · unfold b_X10_saves_2
    rw [zl17, if_neg (zi_nle (a := 17) (b := i) (by omega) (by omega)), zgS, zf_s, h14, zt_ycl.1, zt_tab, zi_mul, nI_add, zi_ldL (by omega) (by omega), zi_mul, nI_add, zi_stL (by omega) (by omega), zf_up, zf_ne (show (107 : Nat) ≠ 108 by omega), nI_1]
    congr 2
    funext j
    unfold zu y_sv
    by_cases d : j = 17 * c + i
    · rw [if_pos d, if_pos (by omega), show j - 17 * c = i by omega]
    · rw [if_neg d]
      by_cases d2 : 17 * c ≤ j ∧ j < 17 * c + i
      · rw [if_pos d2, if_pos (by omega)]
      · rw [if_neg d2, if_neg (by omega)]
  · unfold b_X10_saves_2
    rw [zl17, if_pos (nI_le (Nat.le_refl _) (by omega))]
theorem y_cl_beh {M : qv_Mem} (hK : zMC M) {k g : Nat} (hk : k < 192) (hg : g ∈ pgs) (h : zS M 108 k (CL k)) : ∃ M1, (∀ {α : Type} (kk : qv_Mem → Option α), qv_bo (f_X10_loads qv_TT 106 (nI k) 15 M) (fun M18 => qv_bo (f_X10_product qv_TT 106 15 15 (4 + nI g) M18) kk) = kk M1) ∧ zS M1 107 15 (CL (beh k g)) ∧ zso M M1 107 (fun x => x = 15 ∨ x = 19) := by
  have g7 := pgs_lt hg
  have hE := (cl_key hk).2.2
  have eg := zgt_e g7
  obtain ⟨M1, e1, h1, k1⟩ := y_loads hk (show 15 < 20 by omega) h
  obtain ⟨M2, e2, h2, k2⟩ := y_product zt_tab (c := 15) (a := 15) (b := 4 + g) (by omega) (by omega) (by omega) h1 ((hK.kept k1 (fun s _ _ => by omega)).1 g g7) (by omega) (by omega) (zb_le (zb_pm (cl_b hk) (zgt_bd g7)) (by decide))
  rw [(cl_beh hk hg).1] at h2
  refine ⟨M2, fun kk => ?_, h2, k1.tr k2 (fun s q => Or.inl q) (fun s q => q)⟩
  rw [zl15, e1, zbo, zl_4a, e2, zbo]
theorem y_cl_lef {M : qv_Mem} (hK : zMC M) {k g : Nat} (hk : k < 192) (hg : g ∈ pgs) (h : zS M 108 k (CL k)) : ∃ M1, (∀ {α : Type} (kk : qv_Mem → Option α), qv_bo (f_X10_loads qv_TT 106 (nI k) 15 M) (fun M22 => qv_bo (f_X10_turns qv_TT 106 (4 + nI g) 16 M22) (fun M23 => qv_bo (f_X10_product qv_TT 106 15 16 15 M23) kk)) = kk M1) ∧ zS M1 107 15 (CL (lef k g)) ∧ zso M M1 107 (fun x => x = 15 ∨ x = 16 ∨ x = 19) := by
  have g7 := pgs_lt hg
  have hE := (cl_key hk).2.2
  have eg := zgt_e g7
  obtain ⟨M1, e1, h1, k1⟩ := y_loads hk (show 15 < 20 by omega) h
  obtain ⟨M2, e2, h2, k2⟩ := y_turns zt_tab (c := 16) (a := 4 + g) (by omega) (by omega) ((hK.kept k1 (fun s _ _ => by omega)).1 g g7) (by omega)
  have ec : (zq_ct (zq_gt g)).2 = (zq_gt g).2 := rfl
  have bc : zb (zq_ct (zq_gt g)).1 2 := (zq_ok.gt1 g7).ct.bd 1 (by rw [ec]; omega)
  obtain ⟨M3, e3, h3, k3⟩ := y_product zt_tab (c := 15) (a := 16) (b := 15) (by omega) (by omega) (by omega) h2 (h1.kept k2 (by omega)) (by rw [ec]; omega) (by omega) (zb_le (zb_pm bc (cl_b hk)) (by decide))
  rw [(cl_lef hk hg).1] at h3
  refine ⟨M3, fun kk => ?_, h3, (k1.tr k2 (S := fun x => x = 15 ∨ x = 16 ∨ x = 19) (fun s q => Or.inl q) (fun s q => by omega)).tr k3 (fun s q => q) (fun s q => by omega)⟩
  rw [zl15, e1, zbo, zl_4a, zl16, e2, zbo, e3, zbo]
def yBF (M : qv_Mem) (s : Nat) : Prop := M.2.2 106 14 = nI (cnt s) ∧ (∀ i, i < cnt s → zS M 108 i (CL i)) ∧ zMC M
theorem zS_8 {M M1 : qv_Mem} {S : Nat → Prop} (h : zso M M1 107 S) {k : Nat} {A : zq_T} (q : zS M 108 k A) : zS M1 108 k A := by
  unfold zS at q ⊢
  rw [h.2.2.1 108 (by omega)]
  exact q
theorem y_wstep {M : qv_Mem} {s : Nat} (hs : s < 576) (h : yBF M s) {α : Type} (kk : qv_Mem → Option α) : ∃ M1, qv_bo (f_X10_loads qv_TT 106 (nI (s / 3)) 15 M) (fun M36 => qv_bo (f_X10_product qv_TT 106 15 15 (4 + nI (gg (s % 3))) M36) (fun M39 => qv_bo (f_X10_cliffordOf qv_TT 106 15 M39) (fun v40 => qv_jn kk (fun k42 => (if v40 = (-2) then qv_bo (f_X10_saves qv_TT 106 15 M39) (fun M43 => k42 M43) else k42 M39))))) = kk M1 ∧ yBF M1 (s + 1) ∧ ywf M M1 := by
  obtain ⟨h14, hC, hK⟩ := h
  obtain ⟨c1, c2, c3⟩ := cl_s hs
  obtain ⟨g7, gp⟩ := gg_lt (s % 3)
  have hk : s / 3 < 192 := by omega
  obtain ⟨M1, e1, h1, k1⟩ := y_cl_beh hK hk gp (hC _ c2)
  have b2 := (cl_beh hk gp).2
  have hE := (cl_key b2).2.2
  have w1 : ywf M M1 := ywf_so k1 (fun x q => by omega)
  have n14 : M1.2.2 106 14 = nI (cnt s) := by rw [k1.2.1]; exact h14
  have nC : ∀ i, i < cnt s → zS M1 108 i (CL i) := fun i hi => zS_8 k1 (hC i hi)
  rw [e1, zl15, y_cliffordOf c1 (by omega) n14 nC h1 (zb_le (cl_b b2) (by decide)) (by omega), zbo, zjn]
  generalize hm : beh (s / 3) (gg (s % 3)) = m at b2 c3 h1 hE ⊢
  rcases c3 with ⟨c3, c4⟩ | ⟨c3, c4, -, -⟩
  · rw [cix_in c1 c3 rfl, if_neg (zne_m2 m (by omega))]
    exact ⟨M1, rfl, ⟨by rw [c4]; exact n14, fun i hi => by rw [c4] at hi; exact nC i hi, w1.mc hK⟩, w1⟩
  · rw [cix_out (fun k hk2 q => by
      have := cl_inj (by omega) b2 q
      omega), if_pos rfl]
    obtain ⟨M2, e2, h2, h3, h4, w2⟩ := y_saves (show cnt s < 192 by omega) (show 15 < 20 by omega) n14 h1
    rw [e2, zbo]
    refine ⟨M2, rfl, ⟨by rw [c4]; exact h4, fun i hi => ?_, w2.mc (w1.mc hK)⟩, w1.tr w2⟩
    rw [c4] at hi
    by_cases e : i = cnt s
    · rw [e, ← c3]
      rw [← c3] at h2
      exact h2
    · exact h3 i _ e (nC i (by omega))
def yEn (M : qv_Mem) (k g : Nat) : Prop := M.1 118 (7 * k + g) = nI (beh k g) ∧ M.1 119 (7 * k + g) = nI (lef k g)
noncomputable def y_w89 (M2 : qv_Mem) : Option qv_Mem := qv_lp2 (b_X10_walks_89 106 qv_TT (fun M4 => some M4)) qv_N 0 M2
def yBs (M : qv_Mem) : Prop := M.2.2 106 14 = nI 192 ∧ (∀ i, i < 192 → zS M 108 i (CL i)) ∧ zMC M
theorem yBs.so {M M1 : qv_Mem} {S : Nat → Prop} (h : yBs M) (k : zso M M1 107 S) (hS : ∀ s, S s → s = 15 ∨ s = 16 ∨ s = 19) : yBs M1 := ⟨by rw [k.2.1]; exact h.1, fun i hi => zS_8 k (h.2.1 i hi), (ywf_so k hS).mc h.2.2⟩
theorem yBs.u {M : qv_Mem} {p j : Nat} {v : Int32} (h : yBs M) : yBs (qv_upI M p j v) := h
theorem y_walks2 {M : qv_Mem} (h : yBs M) : ∃ M1, y_w89 M = some M1 ∧ yCl M1 ∧ ywf M M1 := by
  unfold y_w89
  rw [zi_0]
  have key1 := zinv2 (b := b_X10_walks_89 106 qv_TT (fun M4 => some M4)) (k := (fun M4 => some M4)) (fun k N => yBs N ∧ (∀ k2, k2 < k → ∀ g ∈ pgs, yEn N k2 g) ∧ ywf M N) 0 192 (by omega) (fun k N r _ hk hN => ?_) (fun N r hN => ?_) qv_N (qv_N_gt _ (by omega)) M ⟨h, fun j hj => by omega, ywf.rf _⟩
  · obtain ⟨M1, ⟨a1, a2, a3⟩, e1⟩ := key1
    exact ⟨M1, e1, ⟨a1.1, a1.2.1, fun g hg k hk => (a2 k hk g hg).1, fun g hg k hk => (a2 k hk g hg).2⟩, a3⟩
  · obtain ⟨n1, n2, n3⟩ := hN
    unfold b_X10_walks_89
    rw [zgS, n1.1, if_neg (zi_nle (a := 192) (b := k) (by omega) (by omega)), zjn, zi_0]
    have key2 := zinv2 (b := b_X10_walks_99 106 qv_TT (nI k) (fun (M10 : qv_Mem) => r (nI k + 1) M10)) (k := (fun (M10 : qv_Mem) => r (nI k + 1) M10)) (fun g Q => yBs Q ∧ (∀ k2, k2 < k → ∀ g ∈ pgs, yEn Q k2 g) ∧ (∀ g2, g2 < g → g2 ∈ pgs → yEn Q k g2) ∧ ywf M Q) 0 7 (by omega) (fun g Q r2 _ hg hQ => ?_) (fun Q r2 _ => ?_) qv_N (qv_N_gt _ (by omega)) N ⟨n1, n2, fun j hj => by omega, n3⟩
    · obtain ⟨M1, ⟨a1, a2, a3, a4⟩, e1⟩ := key2
      rw [e1, nI_1]
      refine ⟨M1, ⟨a1, fun k2 hk2 g hg => ?_, a4⟩, rfl⟩
      by_cases e : k2 = k
      · rw [e]; exact a3 g (pgs_lt hg) hg
      · exact a2 k2 (by omega) g hg
    · obtain ⟨q1, q2, q3, q4⟩ := hQ
      unfold b_X10_walks_99
      rw [zl7, if_neg (zi_nle (a := 7) (b := g) (by omega) (by omega))]
      by_cases gp : g ∈ pgs
      · rw [y_isCl gp, zbo, zjn, if_neg zl1n0]
        obtain ⟨Q1, e1, h1, k1⟩ := y_cl_beh q1.2.2 hk gp (q1.2.1 k hk)
        have s1 := q1.so k1 (fun x hx => by omega)
        have b2 := (cl_beh hk gp).2
        have hE := (cl_key b2).2.2
        rw [e1, zl15, y_cliffordOf (Nat.le_refl _) (by omega) s1.1 s1.2.1 h1 (zb_le (cl_b b2) (by decide)) (by omega), zbo, zt_ycl.2.1, zt_ycl.2.2.1, zi_mul, nI_add, zi_stI (by omega) (by omega), cix_in (Nat.le_refl _) b2 rfl]
        have s2 : yBs (qv_upI Q1 118 (7 * k + g) (nI (beh k g))) := s1.u
        obtain ⟨Q2, e2, h2, k2⟩ := y_cl_lef s2.2.2 hk gp (s2.2.1 k hk)
        have s3 := s2.so k2 (fun x hx => by omega)
        have l2 := (cl_lef hk gp).2
        have hE2 := (cl_key l2).2.2
        rw [← zl15, e2, zl15, y_cliffordOf (Nat.le_refl _) (by omega) s3.1 s3.2.1 h2 (zb_le (cl_b l2) (by decide)) (by omega), zbo, zi_stI (by omega) (by omega), cix_in (Nat.le_refl _) l2 rfl, nI_1]
        have o8 : ∀ j, (qv_upI Q2 119 (7 * k + g) (nI (lef k g))).1 118 j = if j = 7 * k + g then nI (beh k g) else Q.1 118 j := fun j => by
          rw [zup_ne (show (118 : Nat) ≠ 119 by omega), k2.1, zup_at, k1.1]
        have o9 : ∀ j, (qv_upI Q2 119 (7 * k + g) (nI (lef k g))).1 119 j = if j = 7 * k + g then nI (lef k g) else Q.1 119 j := fun j => by
          rw [zup_at, k2.1, zup_ne (show (119 : Nat) ≠ 118 by omega), k1.1]
        refine ⟨_, ⟨s3.u, fun k3 hk3 g3 hg3 => ?_, fun g2 hg2 hp2 => ?_, (((q4.tr (ywf_so k1 (fun x hx => by omega))).tr (ywf_u (Or.inl rfl))).tr (ywf_so k2 (fun x hx => by omega))).tr (ywf_u (Or.inr rfl))⟩, rfl⟩
        · have g37 := pgs_lt hg3
          unfold yEn
          rw [o8, o9, if_neg (by omega), if_neg (by omega)]
          exact q2 k3 hk3 g3 hg3
        · unfold yEn
          rw [o8, o9]
          by_cases e : g2 = g
          · rw [if_pos (by omega), if_pos (by omega), e]
            exact ⟨rfl, rfl⟩
          · rw [if_neg (by omega), if_neg (by omega)]
            exact q3 g2 (by omega) hp2
      · have g16 : g = 1 ∨ g = 6 := by
          by_cases z1 : g = 1
          · exact Or.inl z1
          · by_cases z6 : g = 6
            · exact Or.inr z6
            · exact absurd (pgs_of hg z1 z6) gp
        rw [y_isCl0 (show zr (nI g) 7 ∨ nI g = 1 ∨ nI g = 6 from Or.inr (g16.elim (fun e => Or.inl (by rw [e]; rfl)) (fun e => Or.inr (by rw [e]; rfl)))), zbo, zjn, if_pos rfl, nI_1]
        refine ⟨Q, ⟨q1, q2, fun g2 hg2 hp2 => ?_, q4⟩, rfl⟩
        by_cases e : g2 = g
        · exact absurd (e ▸ hp2) gp
        · exact q3 g2 (by omega) hp2
    · unfold b_X10_walks_99
      rw [zl7, if_pos (nI_le (Nat.le_refl _) (by omega))]
  · unfold b_X10_walks_89
    rw [zgS, hN.1.1, if_pos (nI_le (Nat.le_refl _) (by omega))]
theorem y_walks {M : qv_Mem} (hK : zMC M) (h14 : M.2.2 106 14 = nI 0) : ∃ M1, f_X10_walks qv_TT 106 M = some M1 ∧ yCl M1 ∧ ywf M M1 := by
  unfold f_X10_walks
  obtain ⟨M1, e1, h1, -, h3, w1⟩ := y_saves (c := 0) (s := 14) (by omega) (by omega) h14 hK.2.2.2.2
  rw [zl14, e1, zbo, zjn, zi_0]
  show ∃ M2, qv_lp2 (b_X10_walks_8 106 qv_TT y_w89) qv_N (nI 0) M1 = some M2 ∧ _
  have b0 : yBF M1 (3 * 0) := ⟨by show _ = nI (cnt 0); rw [cnt_0]; exact h3, fun i hi => by
    have hi2 : i < cnt 0 := hi
    rw [cnt_0] at hi2
    rw [show i = 0 by omega, cl_0]
    exact h1, w1.mc hK⟩
  have key1 := zinv2 (b := b_X10_walks_8 106 qv_TT y_w89) (k := y_w89) (fun k N => yBF N (3 * k) ∧ ywf M N) 0 192 (by omega) (fun k N r _ hk hN => ?_) (fun N r hN => ?_) qv_N (qv_N_gt _ (by omega)) M1 ⟨b0, w1⟩
  · obtain ⟨M2, ⟨a1, a2⟩, e2⟩ := key1
    obtain ⟨q1, q2, q3⟩ := a1
    rw [show 3 * 192 = 576 from rfl, cnt_576] at q1 q2
    obtain ⟨M3, e3, b1, b2⟩ := y_walks2 ⟨q1, q2, q3⟩
    exact ⟨M3, e2.trans e3, b1, a2.tr b2⟩
  · obtain ⟨n1, n2⟩ := hN
    unfold b_X10_walks_8
    obtain ⟨d1, d2, -⟩ := cl_s (show 3 * k < 576 by omega)
    rw [show 3 * k / 3 = k by omega] at d2
    rw [zgS, n1.1, if_neg (nI_ge d2 (by omega)), zjn, zi_0]
    have key2 := zinv2 (b := b_X10_walks_18 106 qv_TT (nI k) (fun (M31 : qv_Mem) => r (nI k + 1) M31)) (k := (fun (M31 : qv_Mem) => r (nI k + 1) M31)) (fun n Q => yBF Q (3 * k + n) ∧ ywf M Q) 0 3 (by omega) (fun n Q r2 _ hn hQ => ?_) (fun Q r2 _ => ?_) qv_N (qv_N_gt _ (by omega)) N ⟨n1, n2⟩
    · obtain ⟨M2, ⟨a1, a2⟩, e2⟩ := key2
      rw [e2, nI_1]
      rw [show 3 * k + 3 = 3 * (k + 1) by omega] at a1
      exact ⟨M2, ⟨a1, a2⟩, rfl⟩
    · obtain ⟨q1, q2⟩ := hQ
      obtain ⟨Q1, e1, h1, w1⟩ := y_wstep (show 3 * k + n < 576 by omega) q1 (fun (M41 : qv_Mem) => r2 (nI n + 1) M41)
      rw [show (3 * k + n) / 3 = k by omega, show (3 * k + n) % 3 = n by omega] at e1
      refine ⟨Q1, ⟨h1, q2.tr w1⟩, ?_⟩
      rw [← nI_1]
      refine Eq.trans ?_ e1
      unfold b_X10_walks_18
      rw [zl3, if_neg (zi_nle (a := 3) (b := n) (by omega) (by omega))]
      obtain ⟨Z, eZ, -, -⟩ := y_loads (show k < 192 by omega) (show 15 < 20 by omega) (q1.2.1 k (by
        have := (cl_s (show 3 * k + n < 576 by omega)).2.1
        omega))
      rw [zl15, eZ, zbo, zbo, zjn]
      match n, hn with
      | 0, _ => rfl
      | 1, _ => rfl
      | 2, _ => rfl
      | n + 3, hn => omega
    · unfold b_X10_walks_18
      rw [zl3, if_pos (nI_le (Nat.le_refl _) (by omega))]
  · unfold b_X10_walks_8
    rw [zgS, hN.1.1, show 3 * 192 = 576 from rfl, cnt_576, if_pos (nI_le (Nat.le_refl _) (by omega))]
