/-! write: the class, to its end. -/
theorem x_closeGroup {M : qv_Mem} {lv : List (List Nat × Nat)} {c0 c : List Nat} {t0 t k : Nat} (hb : lvb ((c0, t0) :: lv)) (h : zRd M ((c0, t0) :: lv) c [] t) (hc60 : c.length ≤ 60) (hc : ∀ g ∈ c, g < 7) (hc0 : ∀ g ∈ c0, g < 7) (hk : k ≤ 9) : rdR M (f_X5_closeGroup qv_TT 58 (nI k) M) lv (tC c0 t0 (rpl k c)) := by
  obtain ⟨h1, h2, h3, h4⟩ := h
  have hb2 : lvb lv := ⟨by have := hb.1; have e : ((c0, t0) :: lv).length = lv.length + 1 := rfl; omega, fun x hx => hb.2 x (List.mem_cons_of_mem _ hx)⟩
  have hb4 : lv.length + 1 ≤ 4 := hb.1
  have hc0' : c0.length ≤ 60 := (hb.2 (c0, t0) List.mem_cons_self).1
  have ht0 : t0 ≤ 100 := (hb.2 (c0, t0) List.mem_cons_self).2
  have hp := hb2.p
  rw [List.append_nil] at h1
  have e2 : M.2.2 58 5 = nI (lv.length + 1) := h2
  have ep : pre ((c0, t0) :: lv) = pre lv ++ c0 := rfl
  have hL0 : (pre lv ++ c0).length = (pre lv).length + c0.length := List.length_append
  have hL : (pre lv ++ c0 ++ c).length = (pre lv ++ c0).length + c.length := List.length_append
  rw [ep] at h1
  obtain ⟨s1, s2, s3⟩ := h4
  rw [ep] at s1
  have ck : c.length * k ≤ 540 := by
    have := Nat.mul_le_mul hc60 hk
    omega
  unfold f_X5_closeGroup
  rw [zgS, e2, if_pos (show (0 : Int32) < nI (lv.length + 1) from nI_lt (a := 0) (by omega) (by omega)), zgS, e2, zt_rd.2.2.1, zi_ldI (by omega) (by omega), s1, zgS, h1.1, hL, zgS, e2, zpS, zi_ps, zgS, zs_at, zt_rd.2.2.2.1, zi_ldI (by omega) (by omega)]
  have m62 : (qv_upS M 58 5 (nI lv.length)).1 62 lv.length = nI t0 := s2
  rw [m62, zpS, zi_sub (by omega) (by omega), show (pre lv ++ c0).length + c.length - (pre lv ++ c0).length = c.length by omega, zi_mul]
  generalize hM9 : qv_upS (qv_upS M 58 5 (nI lv.length)) 58 6 (nI t0) = M9
  have i9 : M9.1 = M.1 := by rw [← hM9]; rfl
  have l9 : M9.2.1 = M.2.1 := by rw [← hM9]; rfl
  have n5 : M9.2.2 58 5 = nI lv.length := by rw [← hM9, zs_ne2 (by omega), zs_at]
  have n6 : M9.2.2 58 6 = nI t0 := by rw [← hM9, zs_at]
  have n4 : M9.2.2 58 4 = M.2.2 58 4 := by rw [← hM9, zs_ne2 (by omega), zs_ne2 (by omega)]
  have f9 : zfr zSD M M9 := ⟨fun a _ => by rw [i9], fun a _ => by rw [l9], fun a ha => by
    have h58 : a ≠ 58 := fun e => ha (by rw [e]; unfold zSD; omega)
    rw [← hM9, zs_ne h58, zs_ne h58]⟩
  have hs9 : zSt M9 lv := zSt_cg (by rw [i9]) (by rw [i9]) lv s3
  rw [hL0, x_held hb2 n5 hs9 (by omega) (by omega), zbo]
  by_cases d : c0.length + c.length * k ≤ 60
  · rw [if_pos d, if_neg zl1n0, zpS, zjn, nI_add, nI_add]
    have rl := rpl_len c k
    generalize hM11 : qv_upS M9 58 4 (nI ((pre lv).length + c0.length + c.length * k)) = M11
    have f11 : zfr zSD M M11 := f9.tr ⟨fun _ _ => by rw [← hM11]; rfl, fun _ _ => by rw [← hM11]; rfl, fun a ha => by rw [← hM11]; exact zs_ne (fun e => ha (by rw [e]; unfold zSD; omega))⟩
    have i11 : M11.1 = M.1 := by rw [← hM11]; exact i9
    have r4 : M11.2.2 58 4 = nI ((pre lv).length + c0.length + c.length * k) := by rw [← hM11, zs_at]
    have r5 : M11.2.2 58 5 = nI lv.length := by rw [← hM11, zs_ne2 (by omega)]; exact n5
    have r6 : M11.2.2 58 6 = nI t0 := by rw [← hM11, zs_ne2 (by omega)]; exact n6
    have lp : ∃ N, qv_lp2 (b_X5_closeGroup_76 58 qv_TT (nI ((pre lv).length + c0.length)) (nI ((pre lv).length + c0.length + c.length)) (fun (M12 : qv_Mem) => qv_bp (f_X5_turnItem qv_TT 58 (nI ((pre lv).length + c0.length)) M12) (fun v14 M15 => qv_gd (qv_01 v14) (some (v14, M15))))) qv_N (nI ((pre lv).length + c0.length + c.length)) M11 = (fun (M12 : qv_Mem) => qv_bp (f_X5_turnItem qv_TT 58 (nI ((pre lv).length + c0.length)) M12) (fun v14 M15 => qv_gd (qv_01 v14) (some (v14, M15)))) N ∧ (∀ j, j < c.length * k → N.1 59 ((pre lv).length + c0.length + j) = nI (c.getD (j % c.length) 0)) ∧ (∀ a, a < (pre lv).length + c0.length → N.1 59 a = M.1 59 a) ∧ N.2 = M11.2 ∧ ∀ a, a ≠ 59 → N.1 a = M.1 a := by
      have b0 : ∀ j, j < c.length → M11.1 59 ((pre lv).length + c0.length + j) = nI (c.getD (j % c.length) 0) := fun j hj => by
        rw [i11, ← hL0, h1.2 _ (by omega), gd_r, Nat.mod_eq_of_lt hj]
      by_cases z : k = 0 ∨ c.length = 0
      · have ck0 : c.length * k = 0 := by
          rcases z with z | z
          · rw [z, Nat.mul_zero]
          · rw [z, Nat.zero_mul]
        obtain ⟨F, hF⟩ : ∃ g, qv_N = g + 1 := ⟨qv_N - 1, by have := qv_N_gt 5 (by omega); omega⟩
        refine ⟨M11, ?_, fun j hj => by omega, fun a _ => by rw [i11], rfl, fun a _ => by rw [i11]⟩
        rw [hF, zN2]
        unfold b_X5_closeGroup_76
        rw [zgS, r4, ck0, if_pos (nI_le (by omega) (by omega))]
      · have ck1 : c.length ≤ c.length * k := Nat.le_mul_of_pos_right _ (by omega)
        have key1 := zinv2 (b := b_X5_closeGroup_76 58 qv_TT (nI ((pre lv).length + c0.length)) (nI ((pre lv).length + c0.length + c.length)) (fun (M12 : qv_Mem) => qv_bp (f_X5_turnItem qv_TT 58 (nI ((pre lv).length + c0.length)) M12) (fun v14 M15 => qv_gd (qv_01 v14) (some (v14, M15))))) (k := (fun (M12 : qv_Mem) => qv_bp (f_X5_turnItem qv_TT 58 (nI ((pre lv).length + c0.length)) M12) (fun v14 M15 => qv_gd (qv_01 v14) (some (v14, M15))))) (fun i N => (∀ j, (pre lv).length + c0.length + j < i → N.1 59 ((pre lv).length + c0.length + j) = nI (c.getD (j % c.length) 0)) ∧ (∀ a, a < (pre lv).length + c0.length → N.1 59 a = M.1 59 a) ∧ N.2 = M11.2 ∧ ∀ a, a ≠ 59 → N.1 a = M.1 a) ((pre lv).length + c0.length + c.length) ((pre lv).length + c0.length + c.length * k) (by omega) (fun i N r hi1 hi2 hN => ?_) (fun N r hN => ?_) qv_N (qv_N_gt _ (by omega)) M11 ⟨fun j hj => b0 j (by omega), fun a _ => by rw [i11], rfl, fun a _ => by rw [i11]⟩
        · obtain ⟨N, ⟨a1, a2, a3, a4⟩, e⟩ := key1
          exact ⟨N, e, fun j hj => a1 j (by omega), a2, a3, a4⟩
        · obtain ⟨m1, m2, m3, m4⟩ := hN
          have s4 : N.2.2 58 4 = nI ((pre lv).length + c0.length + c.length * k) := by rw [m3]; exact r4
          unfold b_X5_closeGroup_76
          have vv := m1 (i - c.length - ((pre lv).length + c0.length)) (by omega)
          rw [show (pre lv).length + c0.length + (i - c.length - ((pre lv).length + c0.length)) = i - c.length by omega] at vv
          rw [zgS, s4, if_neg (nI_ge hi2 (by omega)), zi_sub (by omega) (by omega), show (pre lv).length + c0.length + c.length - ((pre lv).length + c0.length) = c.length by omega, zi_sub (by omega) (by omega), zt_rd.1, zi_ldI (by omega) (by omega), vv, zi_stI (by omega) (by omega), nI_1]
          refine ⟨qv_upI N 59 i (nI (c.getD ((i - c.length - ((pre lv).length + c0.length)) % c.length) 0)), ⟨fun j hj => ?_, fun a ha => ?_, m3, fun a ha => by rw [zup_ne ha]; exact m4 a ha⟩, rfl⟩
          · rw [zup_at]
            by_cases w : (pre lv).length + c0.length + j = i
            · rw [if_pos w]
              have ej : j = (i - c.length - ((pre lv).length + c0.length)) + c.length := by omega
              rw [ej, Nat.add_mod_right]
            · rw [if_neg w]
              exact m1 j (by omega)
          · rw [zup_at, if_neg (by omega)]
            exact m2 a ha
        · unfold b_X5_closeGroup_76
          have s4 : N.2.2 58 4 = nI ((pre lv).length + c0.length + c.length * k) := by rw [hN.2.2.1]; exact r4
          rw [zgS, s4, if_pos (nI_le (Nat.le_refl _) (by omega))]
    obtain ⟨N, e, g1, g2, g3, g4⟩ := lp
    rw [e, ← hL0]
    have fN : zfr zSD M N := ⟨fun a ha => g4 a (fun e => ha (by rw [e]; unfold zSD; omega)), fun a ha => by rw [g3]; exact f11.2.1 a ha, fun a ha => by rw [g3]; exact f11.2.2 a ha⟩
    have rN : rwR N (pre lv ++ c0 ++ rpl k c) := by
      have LL : (pre lv ++ c0 ++ rpl k c).length = (pre lv).length + c0.length + c.length * k := by rw [List.length_append, hL0, rl]
      refine ⟨by rw [g3, r4, LL], fun i hi => ?_⟩
      rw [LL] at hi
      by_cases w : i < (pre lv).length + c0.length
      · rw [g2 i w, h1.2 i (by omega), gd_l (l := pre lv ++ c0) (x := c) (by omega), gd_l (l := pre lv ++ c0) (x := rpl k c) (by omega)]
      · obtain ⟨j, rfl⟩ : ∃ j, i = (pre lv ++ c0).length + j := ⟨i - (pre lv ++ c0).length, by omega⟩
        rw [gd_r, hL0, g1 j (by omega), rpl_get k j (by omega)]
    exact x_tail fN hb2 ⟨rN, by rw [g3]; exact r5, by rw [g3]; exact r6, zSt_cg (M := M) (g4 61 (by omega)) (g4 62 (by omega)) lv s3⟩ (by omega) (by omega) (fun g hg => by
      have : ∀ n, ∀ g ∈ rpl n c, g < 7 := by
        intro n
        induction n with
        | zero => intro g hg; cases hg
        | succ n ih => intro g hg; exact (List.mem_append.mp hg).elim (ih g) (hc g)
      exact this k g hg) hc0
  · rw [if_neg d, if_pos rfl]
    refine ⟨M9, f9, fun c2 hc2 => ?_, fun _ => rfl⟩
    unfold tC at hc2
    rw [rpl_len, if_neg d] at hc2
    cases hc2
theorem FF_none_lt {B : List Nat} {i o : Nat} {n : Bool} (hi : i < B.length) (h : FF B i o n = none) : (glt (hb B i) < 7 ∧ FF B (i + 1) o false = none) ∨ (¬ glt (hb B i) < 7 ∧ hb B i = 126 ∧ FF B (i + 1) o true = none) ∨ (¬ glt (hb B i) < 7 ∧ hb B i ≠ 126 ∧ hb B i = 40 ∧ o < 4 ∧ FF B (i + 1) (o + 1) true = none) ∨ (¬ glt (hb B i) < 7 ∧ hb B i ≠ 126 ∧ hb B i ≠ 40 ∧ hb B i = 41 ∧ 0 < o ∧ FF B (i + 1) (o - 1) n = none) ∨ (¬ glt (hb B i) < 7 ∧ hb B i ≠ 126 ∧ hb B i ≠ 40 ∧ hb B i ≠ 41 ∧ FF B (i + 1) o n = none) := by
  rw [FF_lt hi] at h
  by_cases c1 : glt (hb B i) < 7
  · rw [if_pos c1] at h; exact Or.inl ⟨c1, h⟩
  · rw [if_neg c1] at h
    by_cases c2 : hb B i = 126
    · rw [if_pos c2] at h; exact Or.inr (Or.inl ⟨c1, c2, h⟩)
    · rw [if_neg c2] at h
      by_cases c3 : hb B i = 40 ∧ o < 4
      · rw [if_pos c3] at h; exact Or.inr (Or.inr (Or.inl ⟨c1, c2, c3.1, c3.2, h⟩))
      · rw [if_neg c3] at h
        by_cases c4 : hb B i = 41 ∧ 0 < o ∧ n = false
        · rw [if_pos c4] at h; exact Or.inr (Or.inr (Or.inr (Or.inl ⟨c1, c2, by omega, c4.1, c4.2.1, h⟩)))
        · rw [if_neg c4] at h
          by_cases c5 : (48 ≤ hb B i ∧ hb B i ≤ 57) ∧ 0 < i ∧ hb B (i - 1) = 41
          · rw [if_pos c5] at h; exact Or.inr (Or.inr (Or.inr (Or.inr ⟨c1, c2, by omega, by omega, h⟩)))
          · rw [if_neg c5] at h; cases h
