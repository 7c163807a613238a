/-! write: the class. -/
theorem inv_lt7 {x : List Nat} (h : ∀ g ∈ x, g < 7) : ∀ g ∈ zq_inv x, g < 7 := zq_inv_lt x h
theorem x_ti12 {lv : List (List Nat × Nat)} (hb : lvb lv) {c : List Nat} {T : Nat} (hT : T ≤ 200) : ∀ (n i f : Nat) (M : qv_Mem) (x : List Nat) (t : Nat), i + n = T → n < f → zRd M lv c x t → c.length + x.length ≤ 60 → (∀ g ∈ x, g < 7) → ∃ N, zfr zSD M N ∧ (∀ y, tI c.length n x = some y → qv_lp2 (b_X5_turnItem_12 58 (nI (pre lv ++ c).length) qv_TT (nI T) (fun M3 => some (1, M3))) f (nI i) M = some (1, N) ∧ zRd N lv c y t ∧ (∀ g ∈ y, g < 7) ∧ c.length + y.length ≤ 60) ∧ (tI c.length n x = none → qv_lp2 (b_X5_turnItem_12 58 (nI (pre lv ++ c).length) qv_TT (nI T) (fun M3 => some (1, M3))) f (nI i) M = some (0, N)) := by
  intro n
  induction n with
  | zero =>
    intro i f M x t hi hf h hcx hg
    obtain ⟨f, rfl⟩ : ∃ g, f = g + 1 := ⟨f - 1, by omega⟩
    rw [zN2]
    unfold b_X5_turnItem_12
    rw [if_pos (nI_le (by omega) (by omega))]
    refine ⟨M, zfr.rf _ _, fun y hy => ?_, fun hy => (by cases hy)⟩
    have e : x = y := Option.some.inj hy
    rw [← e]
    exact ⟨rfl, h, hg, hcx⟩
  | succ n ih =>
    intro i f M x t hi hf h hcx hg
    obtain ⟨f, rfl⟩ : ∃ g, f = g + 1 := ⟨f - 1, by omega⟩
    rw [zN2]
    have ih1 := ih (i + 1) f
    generalize qv_lp2 (b_X5_turnItem_12 58 (nI (pre lv ++ c).length) qv_TT (nI T) (fun M3 => some (1, M3))) f = rr at ih1 ⊢
    unfold b_X5_turnItem_12
    rw [if_neg (nI_ge (show i < T by omega) (by omega)), nI_1]
    obtain ⟨N, f1, r1, r2⟩ := x_turnOnce hb h hcx hg
    unfold tI
    by_cases d : c.length + (zq_inv x).length ≤ 60
    · obtain ⟨e1, h1⟩ := r1 d
      rw [e1, zbp, if_neg zl1n0, if_pos d]
      obtain ⟨Q, f2, s1, s2⟩ := ih1 N (zq_inv x) t (by omega) (by omega) h1 d (inv_lt7 hg)
      exact ⟨Q, f1.tr f2, s1, s2⟩
    · rw [r2 (by omega), zbp, if_pos rfl, if_neg d]
      exact ⟨N, f1, fun y hy => (by cases hy), fun _ => rfl⟩
theorem x_turnItem {M : qv_Mem} {lv : List (List Nat × Nat)} {c x : List Nat} {t : Nat} (hb : lvb lv) (h : zRd M lv c x t) (ht : t ≤ 200) (hcx : c.length + x.length ≤ 60) (hg : ∀ g ∈ x, g < 7) : ∃ N, zfr zSD M N ∧ (∀ y, tI c.length t x = some y → f_X5_turnItem qv_TT 58 (nI (pre lv ++ c).length) M = some (1, N) ∧ zRd N lv (c ++ y) [] 0 ∧ (∀ g ∈ y, g < 7) ∧ c.length + y.length ≤ 60) ∧ (tI c.length t x = none → f_X5_turnItem qv_TT 58 (nI (pre lv ++ c).length) M = some (0, N)) := by
  obtain ⟨h1, h2, h3, h4⟩ := h
  unfold f_X5_turnItem
  rw [zgS, h3, zpS, zjn, zi_0]
  have h' : zRd (qv_upS M 58 6 (nI 0)) lv c x 0 := ⟨⟨by rw [zs_ne2 (by omega)]; exact h1.1, h1.2⟩, by rw [zs_ne2 (by omega)]; exact h2, zs_at _ _ _ _, zSt_cg (M := M) (M1 := qv_upS M 58 6 (nI 0)) rfl rfl lv h4⟩
  obtain ⟨N, f1, s1, s2⟩ := x_ti12 hb (T := t) ht t 0 qv_N (qv_upS M 58 6 (nI 0)) x 0 (by omega) (qv_N_gt _ (by omega)) h' hcx hg
  have f0 : zfr zSD M (qv_upS M 58 6 (nI 0)) := ⟨fun _ _ => rfl, fun _ _ => rfl, fun a ha => zs_ne (fun e => ha (by rw [e]; unfold zSD; omega))⟩
  refine ⟨N, f0.tr f1, fun y hy => ?_, s2⟩
  obtain ⟨q1, q2, q3, q4⟩ := s1 y hy
  refine ⟨q1, ⟨?_, q2.2.1, q2.2.2.1, q2.2.2.2⟩, q3, q4⟩
  have := q2.1
  rw [List.append_nil, ← List.append_assoc]
  exact this
/-- what one byte's reading comes to -/
def rdR (M : qv_Mem) (o : Option (Int32 × qv_Mem)) (lv : List (List Nat × Nat)) (w : Option (List Nat)) : Prop := ∃ N, zfr zSD M N ∧ (∀ c2, w = some c2 → o = some (1, N) ∧ zRd N lv c2 [] 0 ∧ c2.length ≤ 60 ∧ ∀ g ∈ c2, g < 7) ∧ (w = none → o = some (0, N))
theorem z01' {b : Int32} (h : b = 0 ∨ b = 1) : qv_01 b = true := by
  rcases h with rfl | rfl <;> decide
theorem rdR_gd {M : qv_Mem} {o : Option (Int32 × qv_Mem)} {lv : List (List Nat × Nat)} {w : Option (List Nat)} (h : rdR M o lv w) : rdR M (qv_bp o (fun v7 M8 => qv_gd (qv_01 v7) (some (v7, M8)))) lv w := by
  obtain ⟨N, h1, h2, h3⟩ := h
  refine ⟨N, h1, fun c2 hc => ?_, fun hn => ?_⟩
  · obtain ⟨e, r⟩ := h2 c2 hc
    rw [e, zbp, z01a, zgd]
    exact ⟨rfl, r⟩
  · rw [h3 hn, zbp, z01b, zgd]
theorem x_tail {M M0 : qv_Mem} {lv : List (List Nat × Nat)} {c x : List Nat} {t : Nat} (hf : zfr zSD M0 M) (hb : lvb lv) (h : zRd M lv c x t) (ht : t ≤ 200) (hcx : c.length + x.length ≤ 60) (hg : ∀ g ∈ x, g < 7) (hc : ∀ g ∈ c, g < 7) : rdR M0 (qv_bp (f_X5_turnItem qv_TT 58 (nI (pre lv ++ c).length) M) (fun v7 M8 => qv_gd (qv_01 v7) (some (v7, M8)))) lv (tC c t x) := by
  apply rdR_gd
  obtain ⟨N, f1, s1, s2⟩ := x_turnItem hb h ht hcx hg
  unfold tC
  rw [if_pos hcx]
  refine ⟨N, hf.tr f1, fun c2 hc2 => ?_, fun hn => ?_⟩
  · cases e : tI c.length t x with
    | none =>
      rw [e] at hc2
      cases hc2
    | some y =>
      rw [e] at hc2
      have e2 : c ++ y = c2 := Option.some.inj hc2
      obtain ⟨q1, q2, q3, q4⟩ := s1 y e
      rw [← e2]
      exact ⟨q1, q2, by rw [List.length_append]; omega, fun g hg => (List.mem_append.mp hg).elim (hc g) (q3 g)⟩
  · cases e : tI c.length t x with
    | none => exact s2 e
    | some y =>
      rw [e] at hn
      cases hn
theorem x_readGate {M : qv_Mem} {lv : List (List Nat × Nat)} {c : List Nat} {t g : Nat} (hb : lvb lv) (h : zRd M lv c [] t) (ht : t ≤ 200) (hc60 : c.length ≤ 60) (hc : ∀ g ∈ c, g < 7) (hg : g < 7) : rdR M (f_X5_readGate qv_TT 58 (nI g) M) lv (tC c t [g]) := by
  obtain ⟨h1, h2, h3, h4⟩ := h
  have hp := hb.p
  rw [List.append_nil] at h1
  have hL : (pre lv ++ c).length = (pre lv).length + c.length := List.length_append
  unfold f_X5_readGate
  rw [zgS, h1.1, hL, zl1i, x_held hb h2 h4 (by omega) (by omega), zbo]
  by_cases d : c.length + 1 ≤ 60
  · rw [if_pos d, if_neg zl1n0, zgS, h1.1, hL, zt_rd.1, zi_stI (by omega) (by omega), zgS, zpS]
    have e4 : (qv_upI M 59 ((pre lv).length + c.length) (nI g)).2.2 58 4 = nI ((pre lv).length + c.length) := by
      show M.2.2 58 4 = _
      rw [h1.1, hL]
    rw [e4, nI_add]
    have s := rw_snoc h1 g
    rw [hL] at s
    have k := zrw_w M ((pre lv).length + c.length) (nI g) (nI ((pre lv).length + c.length + 1))
    generalize qv_upS (qv_upI M 59 ((pre lv).length + c.length) (nI g)) 58 4 (nI ((pre lv).length + c.length + 1)) = N at s k ⊢
    rw [← hL]
    exact x_tail k.fr hb ⟨s, by rw [k.2.2 58 5 (by omega)]; exact h2, by rw [k.2.2 58 6 (by omega)]; exact h3, zSt_cg (k.2.1 61 (by omega)) (k.2.1 62 (by omega)) lv h4⟩ ht d (fun x hx => by rw [List.mem_singleton.mp hx]; exact hg) hc
  · rw [if_neg d, if_pos rfl]
    refine ⟨M, zfr.rf _ _, fun c2 hc2 => ?_, fun _ => rfl⟩
    unfold tC at hc2
    rw [if_neg (show ¬ c.length + [g].length ≤ 60 from d)] at hc2
    cases hc2
theorem x_openGroup {M : qv_Mem} {lv : List (List Nat × Nat)} {c : List Nat} {t : Nat} (hb : lvb lv) (hl : lv.length < 4) (h : zRd M lv c [] t) (hc60 : c.length ≤ 60) : ∃ N, f_X5_openGroup qv_TT 58 M = some (1, N) ∧ zRd N ((c, t) :: lv) [] [] 0 ∧ zfr zSD M N := by
  obtain ⟨h1, h2, h3, h4⟩ := h
  have hp := hb.p
  rw [List.append_nil] at h1
  unfold f_X5_openGroup
  rw [zgS, h2, zl4, if_pos (nI_lt hl (by omega)), zgS, h2, zgS, h3, zt_rd.2.2.2.1, zi_stI (by omega) (by omega), zpS, zgS]
  have e5 : (qv_upS (qv_upI M 62 lv.length (nI t)) 58 6 0).2.2 58 5 = nI lv.length := by
    rw [zs_ne2 (by omega)]
    exact h2
  rw [e5, zpS, nI_1, zgS, zs_at, zgS]
  have e4 : (qv_upS (qv_upS (qv_upI M 62 lv.length (nI t)) 58 6 0) 58 5 (nI (lv.length + 1))).2.2 58 4 = nI (pre lv ++ c).length := by
    rw [zs_ne2 (by omega), zs_ne2 (by omega)]
    exact h1.1
  rw [e4, zt_rd.2.2.1, zi_stI (by omega) (by omega)]
  refine ⟨_, rfl, ⟨⟨?_, fun i hi => ?_⟩, ?_, ?_, ?_, ?_, ?_⟩, ?_⟩
  · rw [List.append_nil, List.append_nil]
    exact e4
  · rw [List.append_nil, List.append_nil] at hi ⊢
    rw [zup_ne (by omega)]
    show (qv_upI M 62 lv.length (nI t)).1 59 i = _
    rw [zup_ne (by omega)]
    exact h1.2 i hi
  · show (qv_upS (qv_upS (qv_upI M 62 lv.length (nI t)) 58 6 0) 58 5 (nI (lv.length + 1))).2.2 58 5 = _
    rw [zs_at]
    rfl
  · show (qv_upS (qv_upS (qv_upI M 62 lv.length (nI t)) 58 6 0) 58 5 (nI (lv.length + 1))).2.2 58 6 = _
    rw [zs_ne2 (by omega), zs_at]
    rfl
  · rw [zup_at, if_pos rfl]
    rfl
  · rw [zup_ne (by omega)]
    show (qv_upI M 62 lv.length (nI t)).1 62 lv.length = _
    rw [zup_at, if_pos rfl]
  · have key : ∀ lv2 : List (List Nat × Nat), lv2.length ≤ lv.length → zSt M lv2 → zSt (qv_upI (qv_upS (qv_upS (qv_upI M 62 lv.length (nI t)) 58 6 0) 58 5 (nI (lv.length + 1))) 61 (lv.length + 1) (nI (pre lv ++ c).length)) lv2 := by
      intro lv2
      induction lv2 with
      | nil =>
        intro _ q
        show (qv_upI _ 61 (lv.length + 1) _).1 61 0 = nI 0
        rw [zup_at, if_neg (by omega)]
        show (qv_upI M 62 lv.length (nI t)).1 61 0 = _
        rw [zup_ne (by omega)]
        exact q
      | cons a lv2 ih =>
        intro hl2 q
        obtain ⟨c3, t3⟩ := a
        have hl3 : lv2.length + 1 ≤ lv.length := hl2
        refine ⟨?_, ?_, ih (by omega) q.2.2⟩
        · rw [zup_at, if_neg (by omega)]
          show (qv_upI M 62 lv.length (nI t)).1 61 _ = _
          rw [zup_ne (by omega)]
          exact q.1
        · rw [zup_ne (by omega)]
          show (qv_upI M 62 lv.length (nI t)).1 62 _ = _
          rw [zup_at, if_neg (by omega)]
          exact q.2.1
    exact key lv (Nat.le_refl _) h4
  · refine ⟨fun a ha => ?_, fun _ _ => rfl, fun a ha => ?_⟩
    · have h61 : a ≠ 61 := fun e => ha (by rw [e]; unfold zSD; omega)
      have h62 : a ≠ 62 := fun e => ha (by rw [e]; unfold zSD; omega)
      rw [zup_ne h61]
      show (qv_upI M 62 lv.length (nI t)).1 a = _
      rw [zup_ne h62]
    · have h58 : a ≠ 58 := fun e => ha (by rw [e]; unfold zSD; omega)
      rw [zup_s, zs_ne h58, zs_ne h58]
      rfl
theorem rpl_get {c : List Nat} : ∀ (k j : Nat), j < c.length * k → (rpl k c).getD j 0 = c.getD (j % c.length) 0
  | 0, j, h => by omega
  | k + 1, j, h => by
    have hl := rpl_len c k
    rw [Nat.mul_add, Nat.mul_one] at h
    show (rpl k c ++ c).getD j 0 = _
    by_cases d : j < c.length * k
    · rw [gd_l (by omega), rpl_get k j d]
    · obtain ⟨i, rfl⟩ : ∃ i, j = (rpl k c).length + i := ⟨j - (rpl k c).length, by omega⟩
      rw [gd_r, hl, Nat.mul_add_mod, Nat.mod_eq_of_lt (by omega)]
