/-! image and restore: the reference. -/
def yB (M : qv_Mem) (k : zBT) : Prop := (∀ r, r < 4 → zS M 109 r (k.1 r)) ∧ (∀ w, w < 3 → M.1 115 w = nI (k.2.1 w).length ∧ (k.2.1 w).length ≤ 60 ∧ ∀ i, i < (k.2.1 w).length → M.1 114 (60 * w + i) = nI ((k.2.1 w).getD i 0)) ∧ ∀ g, g < 7 → M.1 111 g = nI (k.2.2 g)
def yKp (M : qv_Mem) (K : Option zBT) : Prop := match K with
  | none => M.2.2 106 9 = 0
  | some k => M.2.2 106 9 = 1 ∧ yB M k
theorem yB.cg {M M1 : qv_Mem} {k : zBT} (h : yB M k) (h1 : M1.2.1 109 = M.2.1 109) (h2 : M1.1 115 = M.1 115) (h3 : M1.1 114 = M.1 114) (h4 : M1.1 111 = M.1 111) : yB M1 k := by
  unfold yB zS at h ⊢
  rw [h1, h2, h3, h4]
  exact h
theorem yKp.cg {M M1 : qv_Mem} {K : Option zBT} (h : yKp M K) (h1 : M1.2.1 109 = M.2.1 109) (h2 : M1.1 115 = M.1 115) (h3 : M1.1 114 = M.1 114) (h4 : M1.1 111 = M.1 111) (h5 : M1.2.2 106 9 = M.2.2 106 9) : yKp M1 K := by
  unfold yKp at h ⊢
  cases K with
  | none => rw [h5]; exact h
  | some k => exact ⟨by rw [h5]; exact h.1, h.2.cg h1 h2 h3 h4⟩
theorem zpZ1 {α : Type} (id f : Nat) (M : qv_Mem) (k : qv_Mem → Option α) : qv_pZ id f 1 M k = k (qv_upS M id f 1) := _root_.id rfl
theorem zpZ0 {α : Type} (id f : Nat) (M : qv_Mem) (k : qv_Mem → Option α) : qv_pZ id f 0 M k = k (qv_upS M id f 0) := _root_.id rfl
theorem zi_a3 (a b c : Nat) : nI a + nI b + nI c = nI (a + b + c) := by rw [nI_add, nI_add]
theorem y_all {M : qv_Mem} {W : Nat → List Nat} (h : yW M W) : f_X10_all qv_TT 106 M = some (nI (a_all W 3)) := by
  unfold f_X10_all
  rw [zt_size, zi_0, zi_ldI (by omega) (by omega), zl1i, zi_ldI (by omega) (by omega), zl2i, zi_ldI (by omega) (by omega), (h 0 (by omega)).1, (h 1 (by omega)).1, (h 2 (by omega)).1, zi_a3]
  unfold a_all a_all a_all a_all
  rw [Nat.zero_add]
def yir (M M1 : qv_Mem) : Prop := (∀ a, a ≠ 109 → M1.2.1 a = M.2.1 a) ∧ (∀ a, (a < 111 ∨ 115 < a ∨ (111 < a ∧ a < 114)) → M1.1 a = M.1 a) ∧ ∀ a k, ¬ (a = 106 ∧ k = 9) → M1.2.2 a k = M.2.2 a k
theorem zgi_at' (M : qv_Mem) (p : Nat) (F : Nat → Int32) : (zgi M p F).1 p = F := by funext j; exact zgi_at M p F j
theorem zf_at' (M : qv_Mem) (p : Nat) (F : Nat → Int64) : (zf M p F).2.1 p = F := by funext j; exact zf_at M p F j
theorem zf_ne' {M : qv_Mem} {p a : Nat} {F : Nat → Int64} (h : a ≠ p) : (zf M p F).2.1 a = M.2.1 a := by funext j; exact zf_ne h j
theorem y_image {M : qv_Mem} {R : Nat → zq_T} {W : Nat → List Nat} {P : Nat → Nat} (hR : zMR M R) (hW : yW M W) (hP : yP M P) : ∃ M1, f_X10_image qv_TT 106 M = some (nI (a_all W 3), M1) ∧ yKp M1 (some (R, W, P)) ∧ yir M M1 := by
  unfold f_X10_image
  rw [zjn, zi_0, y_im2, zjn, y_im28, zjn, y_im55, zjn, y_im80]
  generalize hN : zgi (zgi (zgi (zf M 109 (cpi (M.2.1 107) (M.2.1 109) 68)) 114 _) 115 _) 111 _ = N
  have n1 : ∀ a, a ≠ 109 → N.2.1 a = M.2.1 a := fun a ha => by rw [← hN, zgi_l, zgi_l, zgi_l, zf_ne' ha]
  have n2 : N.2.1 109 = cpi (M.2.1 107) (M.2.1 109) 68 := by rw [← hN, zgi_l, zgi_l, zgi_l, zf_at']
  have n3 : ∀ a, (a < 111 ∨ 115 < a ∨ (111 < a ∧ a < 114)) → N.1 a = M.1 a := fun a ha => by rw [← hN, zgi_ne (by omega), zgi_ne (by omega), zgi_ne (by omega), zf_i]
  have n4 : N.1 111 = cpi (M.1 110) (M.1 111) 7 := by
    rw [← hN, zgi_at', zgi_ne (by omega), zgi_ne (by omega), zgi_ne (by omega), zgi_ne (by omega), zf_i]
  have n5 : N.1 115 = cpi (M.1 113) (M.1 115) 3 := by
    rw [← hN, zgi_ne (by omega), zgi_at', zgi_ne (by omega), zgi_ne (by omega), zf_i]
  have n6 : N.1 114 = cpi (M.1 112) (M.1 114) 180 := by
    rw [← hN, zgi_ne (by omega), zgi_ne (by omega), zgi_at', zf_i]
  have n7 : N.2.2 = M.2.2 := by rw [← hN]; rfl
  rw [zpZ1]
  have hW2 : yW (qv_upS N 106 9 1) W := by
    unfold yW
    show ∀ w, w < 3 → N.1 113 w = _ ∧ _ ∧ ∀ i, _ → N.1 112 _ = _
    rw [n3 113 (by omega), n3 112 (by omega)]
    exact hW
  rw [y_all hW2, zbo]
  refine ⟨_, rfl, ⟨zs_at _ _ _ _, ?_, ?_, ?_⟩, n1, n3, fun a k hk => ?_⟩
  · intro r hr
    obtain ⟨q1, q2⟩ := hR r hr
    refine ⟨fun j hj => ?_, ?_⟩
    · show N.2.1 109 (17 * r + j) = _
      rw [n2]
      unfold cpi
      rw [if_pos (by omega)]
      exact q1 j hj
    · show N.2.1 109 (17 * r + 16) = _
      rw [n2]
      unfold cpi
      rw [if_pos (by omega)]
      exact q2
  · intro w hw
    obtain ⟨q1, q2, q3⟩ := hW w hw
    refine ⟨?_, q2, fun i hi => ?_⟩
    · show N.1 115 w = _
      rw [n5]
      unfold cpi
      rw [if_pos hw]
      exact q1
    · have hi2 : i < (W w).length := hi
      show N.1 114 (60 * w + i) = _
      rw [n6]
      unfold cpi
      rw [if_pos (by omega)]
      exact q3 i hi
  · intro g hg
    show N.1 111 g = _
    rw [n4]
    unfold cpi
    rw [if_pos hg]
    exact hP g hg
  · rw [zs_ne2 hk, n7]
def yrr (M M1 : qv_Mem) : Prop := (∀ a, a ≠ 107 → M1.2.1 a = M.2.1 a) ∧ (∀ j, 68 ≤ j → M1.2.1 107 j = M.2.1 107 j) ∧ (∀ a, (a < 110 ∨ 113 < a ∨ a = 111) → M1.1 a = M.1 a) ∧ ∀ a k, ¬ (a = 106 ∧ k = 22) → M1.2.2 a k = M.2.2 a k
theorem yrr.mc {M M1 : qv_Mem} (h : yrr M M1) (hM : zMC M) : zMC M1 := by
  have key : ∀ s A, 4 ≤ s → zS M 107 s A → zS M1 107 s A := fun s A hs q => by
    refine ⟨fun j hj => ?_, ?_⟩
    · show M1.2.1 107 (17 * s + j) = _
      rw [h.2.1 _ (by omega)]
      exact q.1 j hj
    · rw [h.2.1 _ (by omega)]
      exact q.2
  exact ⟨fun g hg => key _ _ (by omega) (hM.1 g hg), key _ _ (by omega) hM.2.1, key _ _ (by omega) hM.2.2.1, key _ _ (by omega) hM.2.2.2.1, key _ _ (by omega) hM.2.2.2.2⟩
theorem y_restore {M : qv_Mem} {R : Nat → zq_T} {W : Nat → List Nat} {P : Nat → Nat} {Hs : List (Nat × List Nat)} {K : Option zBT} (hR : zMR M R) (hW : yW M W) (hP : yP M P) (hH : yH M Hs) (hK : yKp M K) : ∃ M1, f_X10_restore qv_TT 106 M = some (a_restI K, M1) ∧ zMR M1 (a_rest R W P K).1 ∧ yW M1 (a_rest R W P K).2.1 ∧ yP M1 (a_rest R W P K).2.2 ∧ yH M1 (a_restH Hs K) ∧ yrr M M1 := by
  unfold f_X10_restore
  rw [zgS]
  cases K with
  | none =>
    rw [if_pos (show M.2.2 106 9 = 0 from hK)]
    exact ⟨M, rfl, hR, hW, hP, hH, fun _ _ => rfl, fun _ _ => rfl, fun _ _ => rfl, fun _ _ _ => rfl⟩
  | some kk =>
    obtain ⟨k0, k1, k2, k3⟩ := hK
    rw [k0, if_neg zl1n0, zjn, zi_0, y_re12, zjn, y_re38, zjn, y_re65, zjn, y_re90]
    generalize hN : zgi (zgi (zgi (zf M 107 (cpi (M.2.1 109) (M.2.1 107) 68)) 112 _) 113 _) 110 _ = N
    have n1 : ∀ a, a ≠ 107 → N.2.1 a = M.2.1 a := fun a ha => by rw [← hN, zgi_l, zgi_l, zgi_l, zf_ne' ha]
    have n2 : N.2.1 107 = cpi (M.2.1 109) (M.2.1 107) 68 := by rw [← hN, zgi_l, zgi_l, zgi_l, zf_at']
    have n3 : ∀ a, (a < 110 ∨ 113 < a ∨ a = 111) → N.1 a = M.1 a := fun a ha => by rw [← hN, zgi_ne (by omega), zgi_ne (by omega), zgi_ne (by omega), zf_i]
    have n4 : N.1 110 = cpi (M.1 111) (M.1 110) 7 := by
      rw [← hN, zgi_at', zgi_ne (by omega), zgi_ne (by omega), zgi_ne (by omega), zgi_ne (by omega), zf_i]
    have n5 : N.1 113 = cpi (M.1 115) (M.1 113) 3 := by
      rw [← hN, zgi_ne (by omega), zgi_at', zgi_ne (by omega), zgi_ne (by omega), zf_i]
    have n6 : N.1 112 = cpi (M.1 114) (M.1 112) 180 := by
      rw [← hN, zgi_ne (by omega), zgi_ne (by omega), zgi_at', zf_i]
    have n7 : N.2.2 = M.2.2 := by rw [← hN]; rfl
    rw [zpS]
    have hW2 : yW (qv_upS N 106 22 (nI 0)) kk.2.1 := by
      intro w hw
      obtain ⟨q1, q2, q3⟩ := k2 w hw
      refine ⟨?_, q2, fun i hi => ?_⟩
      · show N.1 113 w = _
        rw [n5]
        unfold cpi
        rw [if_pos hw]
        exact q1
      · show N.1 112 (60 * w + i) = _
        rw [n6]
        unfold cpi
        rw [if_pos (by omega)]
        exact q3 i hi
    rw [y_all hW2, zbo]
    refine ⟨_, rfl, ?_, hW2, ?_, ⟨zs_at _ _ _ _, Nat.zero_le _, fun k hk => (by cases hk)⟩, n1, fun j hj => ?_, n3, fun a k hk => ?_⟩
    · intro r hr
      obtain ⟨q1, q2⟩ := k1 r hr
      refine ⟨fun j hj => ?_, ?_⟩
      · show N.2.1 107 (17 * r + j) = _
        rw [n2]
        unfold cpi
        rw [if_pos (by omega)]
        exact q1 j hj
      · show N.2.1 107 (17 * r + 16) = _
        rw [n2]
        unfold cpi
        rw [if_pos (by omega)]
        exact q2
    · intro g hg
      show N.1 110 g = _
      rw [n4]
      unfold cpi
      rw [if_pos hg]
      exact k3 g hg
    · show N.2.1 107 j = _
      rw [n2]
      unfold cpi
      rw [if_neg (by omega)]
    · rw [zs_ne2 hk, n7]
theorem a_rest_k {R : Nat → zq_T} {W : Nat → List Nat} {P : Nat → Nat} {Hs : List (Nat × List Nat)} {K : Option zBT} (hR : zRk R) (hW : zWk W) (hP : zPk P) (hH : zHk Hs) (hK : zKk K) : zRk (a_rest R W P K).1 ∧ zWk (a_rest R W P K).2.1 ∧ zPk (a_rest R W P K).2.2 ∧ zHk (a_restH Hs K) := by
  cases K with
  | none => exact ⟨hR, hW, hP, hH⟩
  | some k => exact ⟨hK.1, hK.2.1, hK.2.2, Nat.zero_le _, fun k hk => (by cases hk)⟩
