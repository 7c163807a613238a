def zw (z : zq_N) : zq_N := (-z.2.2.2, z.1, z.2.1, z.2.2.1)
theorem zw_ev (z : zq_N) : zq_ev (zw z) = zq_ev z := by
  obtain ⟨a, b, c, d⟩ := z
  have h1 : ((-d + b) % 2 = 0) = ((b + d) % 2 = 0) := propext ⟨fun h => by omega, fun h => by omega⟩
  show (decide ((-d + b) % 2 = 0) && decide ((a + c) % 2 = 0)) = (decide ((a + c) % 2 = 0) && decide ((b + d) % 2 = 0))
  rw [Bool.and_comm]
  congr 1
  exact decide_eq_decide.mpr (by rw [h1])
theorem zw_mul (z : zq_N) : zq_mul z (0, 1, 0, 0) = zw z ∧ zq_mul (0, 1, 0, 0) z = zw z := by
  obtain ⟨a, b, c, d⟩ := z
  constructor <;> (simp only [zq_mul, zw, Prod.mk.injEq]; refine ⟨?_, ?_, ?_, ?_⟩ <;> omega)
theorem zw_mul2 (z : zq_N) : zq_mul z (0, 0, 1, 0) = zw (zw z) ∧ zq_mul (0, 0, 1, 0) z = zw (zw z) := by
  obtain ⟨a, b, c, d⟩ := z
  constructor <;> (simp only [zq_mul, zw, Prod.mk.injEq]; refine ⟨?_, ?_, ?_, ?_⟩ <;> omega)
theorem zw_mul4 (z : zq_N) : zq_mul z (-1, 0, 0, 0) = zw (zw (zw (zw z))) ∧ zq_mul (-1, 0, 0, 0) z = zw (zw (zw (zw z))) := by
  obtain ⟨a, b, c, d⟩ := z
  constructor <;> (simp only [zq_mul, zw, Prod.mk.injEq]; refine ⟨?_, ?_, ?_, ?_⟩ <;> omega)
theorem zw_mul7 (z : zq_N) : zq_mul z (0, 0, 0, -1) = zw (zw (zw (zw (zw (zw (zw z)))))) ∧ zq_mul (0, 0, 0, -1) z = zw (zw (zw (zw (zw (zw (zw z)))))) := by
  obtain ⟨a, b, c, d⟩ := z
  constructor <;> (simp only [zq_mul, zw, Prod.mk.injEq]; refine ⟨?_, ?_, ?_, ?_⟩ <;> omega)
theorem zw_mul1 (z : zq_N) : zq_mul z (1, 0, 0, 0) = z ∧ zq_mul (1, 0, 0, 0) z = z := by
  obtain ⟨a, b, c, d⟩ := z
  constructor <;> (simp only [zq_mul, Prod.mk.injEq]; refine ⟨?_, ?_, ?_, ?_⟩ <;> omega)
theorem zw_mul0 (z : zq_N) : zq_mul z (0, 0, 0, 0) = (0, 0, 0, 0) ∧ zq_mul (0, 0, 0, 0) z = (0, 0, 0, 0) := by
  obtain ⟨a, b, c, d⟩ := z
  constructor <;> (simp only [zq_mul, Prod.mk.injEq]; refine ⟨?_, ?_, ?_, ?_⟩ <;> omega)
theorem zw_add0 (z : zq_N) : zq_add z (0, 0, 0, 0) = z ∧ zq_add (0, 0, 0, 0) z = z := by
  obtain ⟨a, b, c, d⟩ := z
  constructor <;> (simp only [zq_add, Prod.mk.injEq]; refine ⟨?_, ?_, ?_, ?_⟩ <;> omega)
theorem zg_ov (A : zq_F) {g : Nat} (h0 : g ≠ 0) (hg : g < 7) : zq_ov (zq_pmF A (zq_gt g).1) = zq_ov A ∧ zq_ov (zq_pmF (zq_gt g).1 A) = zq_ov A := by
  have bc : ∀ a b c d : Bool, (a && (b && (c && d))) = (b && (a && (d && c))) ∧ (a && (b && (c && d))) = (c && (d && (a && b))) := by decide
  match g, hg, h0 with
  | 1, _, _ => exact ⟨by simp only [zq_pmF, show (zq_gt 1).1 = ((1, 0, 0, 0), (0, 0, 0, 0), (0, 0, 0, 0), (0, 1, 0, 0)) from rfl, (zw_mul _).1, (zw_mul _).2, (zw_mul1 _).1, (zw_mul1 _).2, (zw_mul0 _).1, (zw_mul0 _).2, (zw_add0 _).1, (zw_add0 _).2, zq_ov, zw_ev], by simp only [zq_pmF, show (zq_gt 1).1 = ((1, 0, 0, 0), (0, 0, 0, 0), (0, 0, 0, 0), (0, 1, 0, 0)) from rfl, (zw_mul _).1, (zw_mul _).2, (zw_mul1 _).1, (zw_mul1 _).2, (zw_mul0 _).1, (zw_mul0 _).2, (zw_add0 _).1, (zw_add0 _).2, zq_ov, zw_ev]⟩
  | 2, _, _ => exact ⟨by simp only [zq_pmF, show (zq_gt 2).1 = ((1, 0, 0, 0), (0, 0, 0, 0), (0, 0, 0, 0), (0, 0, 1, 0)) from rfl, (zw_mul2 _).1, (zw_mul2 _).2, (zw_mul1 _).1, (zw_mul1 _).2, (zw_mul0 _).1, (zw_mul0 _).2, (zw_add0 _).1, (zw_add0 _).2, zq_ov, zw_ev], by simp only [zq_pmF, show (zq_gt 2).1 = ((1, 0, 0, 0), (0, 0, 0, 0), (0, 0, 0, 0), (0, 0, 1, 0)) from rfl, (zw_mul2 _).1, (zw_mul2 _).2, (zw_mul1 _).1, (zw_mul1 _).2, (zw_mul0 _).1, (zw_mul0 _).2, (zw_add0 _).1, (zw_add0 _).2, zq_ov, zw_ev]⟩
  | 3, _, _ => exact ⟨by simp only [zq_pmF, show (zq_gt 3).1 = ((0, 0, 0, 0), (1, 0, 0, 0), (1, 0, 0, 0), (0, 0, 0, 0)) from rfl, (zw_mul1 _).1, (zw_mul1 _).2, (zw_mul0 _).1, (zw_mul0 _).2, (zw_add0 _).1, (zw_add0 _).2, zq_ov]; exact (bc _ _ _ _).1, by simp only [zq_pmF, show (zq_gt 3).1 = ((0, 0, 0, 0), (1, 0, 0, 0), (1, 0, 0, 0), (0, 0, 0, 0)) from rfl, (zw_mul1 _).1, (zw_mul1 _).2, (zw_mul0 _).1, (zw_mul0 _).2, (zw_add0 _).1, (zw_add0 _).2, zq_ov]; exact (bc _ _ _ _).2⟩
  | 4, _, _ => exact ⟨by simp only [zq_pmF, show (zq_gt 4).1 = ((1, 0, 0, 0), (0, 0, 0, 0), (0, 0, 0, 0), (-1, 0, 0, 0)) from rfl, (zw_mul4 _).1, (zw_mul4 _).2, (zw_mul1 _).1, (zw_mul1 _).2, (zw_mul0 _).1, (zw_mul0 _).2, (zw_add0 _).1, (zw_add0 _).2, zq_ov, zw_ev], by simp only [zq_pmF, show (zq_gt 4).1 = ((1, 0, 0, 0), (0, 0, 0, 0), (0, 0, 0, 0), (-1, 0, 0, 0)) from rfl, (zw_mul4 _).1, (zw_mul4 _).2, (zw_mul1 _).1, (zw_mul1 _).2, (zw_mul0 _).1, (zw_mul0 _).2, (zw_add0 _).1, (zw_add0 _).2, zq_ov, zw_ev]⟩
  | 5, _, _ => exact ⟨by simp only [zq_pmF, show (zq_gt 5).1 = ((0, 1, 0, 0), (0, 0, 0, 0), (0, 0, 0, 0), (0, 1, 0, 0)) from rfl, (zw_mul _).1, (zw_mul _).2, (zw_mul0 _).1, (zw_mul0 _).2, (zw_add0 _).1, (zw_add0 _).2, zq_ov, zw_ev], by simp only [zq_pmF, show (zq_gt 5).1 = ((0, 1, 0, 0), (0, 0, 0, 0), (0, 0, 0, 0), (0, 1, 0, 0)) from rfl, (zw_mul _).1, (zw_mul _).2, (zw_mul0 _).1, (zw_mul0 _).2, (zw_add0 _).1, (zw_add0 _).2, zq_ov, zw_ev]⟩
  | 6, _, _ => exact ⟨by simp only [zq_pmF, show (zq_gt 6).1 = ((1, 0, 0, 0), (0, 0, 0, 0), (0, 0, 0, 0), (0, 0, 0, -1)) from rfl, (zw_mul7 _).1, (zw_mul7 _).2, (zw_mul1 _).1, (zw_mul1 _).2, (zw_mul0 _).1, (zw_mul0 _).2, (zw_add0 _).1, (zw_add0 _).2, zq_ov, zw_ev], by simp only [zq_pmF, show (zq_gt 6).1 = ((1, 0, 0, 0), (0, 0, 0, 0), (0, 0, 0, 0), (0, 0, 0, -1)) from rfl, (zw_mul7 _).1, (zw_mul7 _).2, (zw_mul1 _).1, (zw_mul1 _).2, (zw_mul0 _).1, (zw_mul0 _).2, (zw_add0 _).1, (zw_add0 _).2, zq_ov, zw_ev]⟩
  | g + 7, h, _ => omega
theorem zg_e {g : Nat} (h0 : g ≠ 0) (hg : g < 7) : (zq_gt g).2 = 0 := by
  match g, hg, h0 with
  | 1, _, _ => rfl
  | 2, _, _ => rfl
  | 3, _, _ => rfl
  | 4, _, _ => rfl
  | 5, _, _ => rfl
  | 6, _, _ => rfl
  | g + 7, h, _ => omega
theorem zg_lm {A : zq_T} (hl : zq_ls A) {g : Nat} (h0 : g ≠ 0) (hg : g < 7) : zq_lm A (zq_gt g) = (zq_pmF A.1 (zq_gt g).1, A.2) ∧ zq_lm (zq_gt g) A = (zq_pmF (zq_gt g).1 A.1, A.2) := by
  obtain ⟨o1, o2⟩ := zg_ov A.1 h0 hg
  have e := zg_e h0 hg
  constructor
  · unfold zq_lm
    have : zq_pm A (zq_gt g) = (zq_pmF A.1 (zq_gt g).1, A.2) := by simp [zq_pm, e]
    rw [this]
    apply zq_ls_low
    rcases hl with h | h
    · exact Or.inl h
    · exact Or.inr (by rw [o1]; exact h)
  · unfold zq_lm
    have : zq_pm (zq_gt g) A = (zq_pmF (zq_gt g).1 A.1, A.2) := by simp [zq_pm, e]
    rw [this]
    apply zq_ls_low
    rcases hl with h | h
    · exact Or.inl h
    · exact Or.inr (by rw [o2]; exact h)
theorem zb_mk {A : zq_F} {n : Int} (h0 : (-n ≤ A.1.1 ∧ A.1.1 ≤ n) ∧ (-n ≤ A.1.2.1 ∧ A.1.2.1 ≤ n) ∧ (-n ≤ A.1.2.2.1 ∧ A.1.2.2.1 ≤ n) ∧ (-n ≤ A.1.2.2.2 ∧ A.1.2.2.2 ≤ n)) (h1 : (-n ≤ A.2.1.1 ∧ A.2.1.1 ≤ n) ∧ (-n ≤ A.2.1.2.1 ∧ A.2.1.2.1 ≤ n) ∧ (-n ≤ A.2.1.2.2.1 ∧ A.2.1.2.2.1 ≤ n) ∧ (-n ≤ A.2.1.2.2.2 ∧ A.2.1.2.2.2 ≤ n)) (h2 : (-n ≤ A.2.2.1.1 ∧ A.2.2.1.1 ≤ n) ∧ (-n ≤ A.2.2.1.2.1 ∧ A.2.2.1.2.1 ≤ n) ∧ (-n ≤ A.2.2.1.2.2.1 ∧ A.2.2.1.2.2.1 ≤ n) ∧ (-n ≤ A.2.2.1.2.2.2 ∧ A.2.2.1.2.2.2 ≤ n)) (h3 : (-n ≤ A.2.2.2.1 ∧ A.2.2.2.1 ≤ n) ∧ (-n ≤ A.2.2.2.2.1 ∧ A.2.2.2.2.1 ≤ n) ∧ (-n ≤ A.2.2.2.2.2.1 ∧ A.2.2.2.2.2.1 ≤ n) ∧ (-n ≤ A.2.2.2.2.2.2 ∧ A.2.2.2.2.2.2 ≤ n)) : zb A n := by
  intro i hi
  match i, hi with
  | 0, _ => exact h0
  | 1, _ => exact h1
  | 2, _ => exact h2
  | 3, _ => exact h3
  | i + 4, h => omega
theorem zb_H {A : zq_F} {n : Int} (h : zb A n) : zb (zq_pmF A (zq_gt 0).1) (2 * n) ∧ zb (zq_pmF (zq_gt 0).1 A) (2 * n) := by
  have a0 : (-n ≤ A.1.1 ∧ A.1.1 ≤ n) ∧ (-n ≤ A.1.2.1 ∧ A.1.2.1 ≤ n) ∧ (-n ≤ A.1.2.2.1 ∧ A.1.2.2.1 ≤ n) ∧ (-n ≤ A.1.2.2.2 ∧ A.1.2.2.2 ≤ n) := h 0 (by omega)
  have a1 : (-n ≤ A.2.1.1 ∧ A.2.1.1 ≤ n) ∧ (-n ≤ A.2.1.2.1 ∧ A.2.1.2.1 ≤ n) ∧ (-n ≤ A.2.1.2.2.1 ∧ A.2.1.2.2.1 ≤ n) ∧ (-n ≤ A.2.1.2.2.2 ∧ A.2.1.2.2.2 ≤ n) := h 1 (by omega)
  have a2 : (-n ≤ A.2.2.1.1 ∧ A.2.2.1.1 ≤ n) ∧ (-n ≤ A.2.2.1.2.1 ∧ A.2.2.1.2.1 ≤ n) ∧ (-n ≤ A.2.2.1.2.2.1 ∧ A.2.2.1.2.2.1 ≤ n) ∧ (-n ≤ A.2.2.1.2.2.2 ∧ A.2.2.1.2.2.2 ≤ n) := h 2 (by omega)
  have a3 : (-n ≤ A.2.2.2.1 ∧ A.2.2.2.1 ≤ n) ∧ (-n ≤ A.2.2.2.2.1 ∧ A.2.2.2.2.1 ≤ n) ∧ (-n ≤ A.2.2.2.2.2.1 ∧ A.2.2.2.2.2.1 ≤ n) ∧ (-n ≤ A.2.2.2.2.2.2 ∧ A.2.2.2.2.2.2 ≤ n) := h 3 (by omega)
  clear h
  obtain ⟨⟨a, b, c, d⟩, ⟨e, f, k, l⟩, ⟨i, j, m, o⟩, ⟨p, q, r, s⟩⟩ := A
  dsimp only at a0 a1 a2 a3
  rw [show (zq_gt 0).1 = ((1, 0, 0, 0), (1, 0, 0, 0), (1, 0, 0, 0), (-1, 0, 0, 0)) from rfl]
  constructor
  · apply zb_mk <;> (dsimp only [zq_pmF, zq_mul, zq_add]; refine ⟨⟨?_, ?_⟩, ⟨?_, ?_⟩, ⟨?_, ?_⟩, ?_, ?_⟩ <;> omega)
  · apply zb_mk <;> (dsimp only [zq_pmF, zq_mul, zq_add]; refine ⟨⟨?_, ?_⟩, ⟨?_, ?_⟩, ⟨?_, ?_⟩, ?_, ?_⟩ <;> omega)
theorem zT_zf {M : qv_Mem} {t p : Nat} {F : Nat → Int64} {A : zq_T} (h : zh F A.1) (h2 : M.2.2 t 1 = nI A.2) : zT (zf M p F) t p A := by
  refine ⟨?_, h2⟩
  have : (zf M p F).2.1 p = F := by funext j; exact zf_at _ _ _ j
  rw [this]
  exact h
theorem z_behind {T : List qv_Ent} {t p : Nat} (hp : qv_rf T t 0 = p) {M : qv_Mem} {A : zq_T} {g : Nat} (h : zT M t p A) (hl : zq_ls A) (hb : zb A.1 1152921504606846976) (he : A.2 + 1 < 1000) (hg : g < 7) : ∃ M1, f_X7_applyBehind T t (nI g) M = some M1 ∧ zT M1 t p (zq_lm A (zq_gt g)) ∧ zo M M1 t p := by
  have e : M = zf M p (M.2.1 p) := (zf_self M p).symm
  have hF := zh_behind h.1 hg
  have st : f_X7_applyBehind T t (nI g) M = (if g = 0 then qv_bo (f_X7_lower T t (qv_upS (zf M p (z_pair g 8 12 (z_pair g 0 4 (M.2.1 p)))) t 1 (nI (A.2 + 1)))) (fun M9 => some M9) else some (zf M p (z_pair g 8 12 (z_pair g 0 4 (M.2.1 p))))) := by
    unfold f_X7_applyBehind
    conv => lhs; rw [e]
    simp (disch := omega) only [zi_lit, z_placeOf, qv_bo, Nat.reduceMul, Nat.reduceAdd, Nat.zero_add, Nat.zero_mul, Nat.one_mul, z_applyToPair hp, zi_eq, qv_gS, qv_pS, zf_s, h.2, nI_add, hg, zf_zf, zf_at]
  rw [st]
  by_cases h0 : g = 0
  · subst h0
    rw [if_pos rfl]
    have hT : zT (qv_upS (zf M p (z_pair 0 8 12 (z_pair 0 0 4 (M.2.1 p)))) t 1 (nI (A.2 + 1))) t p (zq_pm A (zq_gt 0)) := by
      rw [zf_S]
      exact zT_zf hF (zs_at _ _ _ _)
    obtain ⟨M1, g1, g2, g3⟩ := z_lower hp hT (by have := (zb_H hb).1; exact this) (by show A.2 + 1 < 1000; exact he)
    rw [g1]
    exact ⟨M1, rfl, g2, ((zo_zf M t p _).tr (zo_S _ t p _)).tr g3⟩
  · rw [if_neg h0]
    refine ⟨_, rfl, ?_, zo_zf M t p _⟩
    rw [(zg_lm hl h0 hg).1]
    exact zT_zf hF h.2
theorem z_ahead {T : List qv_Ent} {t p : Nat} (hp : qv_rf T t 0 = p) {M : qv_Mem} {A : zq_T} {g : Nat} (h : zT M t p A) (hl : zq_ls A) (hb : zb A.1 1152921504606846976) (he : A.2 + 1 < 1000) (hg : g < 7) : ∃ M1, f_X7_applyAhead T t (nI g) M = some M1 ∧ zT M1 t p (zq_lm (zq_gt g) A) ∧ zo M M1 t p := by
  have e : M = zf M p (M.2.1 p) := (zf_self M p).symm
  have hF := zh_ahead h.1 hg
  have st : f_X7_applyAhead T t (nI g) M = (if g = 0 then qv_bo (f_X7_lower T t (qv_upS (zf M p (z_pair g 4 12 (z_pair g 0 8 (M.2.1 p)))) t 1 (nI (A.2 + 1)))) (fun M9 => some M9) else some (zf M p (z_pair g 4 12 (z_pair g 0 8 (M.2.1 p))))) := by
    unfold f_X7_applyAhead
    conv => lhs; rw [e]
    simp (disch := omega) only [zi_lit, z_placeOf, qv_bo, Nat.reduceMul, Nat.reduceAdd, Nat.zero_add, Nat.zero_mul, Nat.one_mul, z_applyToPair hp, zi_eq, qv_gS, qv_pS, zf_s, h.2, nI_add, hg, zf_zf, zf_at]
  rw [st]
  by_cases h0 : g = 0
  · subst h0
    rw [if_pos rfl]
    have hT : zT (qv_upS (zf M p (z_pair 0 4 12 (z_pair 0 0 8 (M.2.1 p)))) t 1 (nI (A.2 + 1))) t p (zq_pm (zq_gt 0) A) := by
      rw [zf_S]
      refine zT_zf hF ?_
      rw [zs_at]
      congr 1
      exact Nat.add_comm _ _
    obtain ⟨M1, g1, g2, g3⟩ := z_lower hp hT (by have := (zb_H hb).2; exact this) (by show 1 + A.2 < 1000; omega)
    rw [g1]
    exact ⟨M1, rfl, g2, ((zo_zf M t p _).tr (zo_S _ t p _)).tr g3⟩
  · rw [if_neg h0]
    refine ⟨_, rfl, ?_, zo_zf M t p _⟩
    rw [(zg_lm hl h0 hg).2]
    exact zT_zf hF h.2
theorem z_makeUnit {T : List qv_Ent} {t p : Nat} (hp : qv_rf T t 0 = p) (M : qv_Mem) : ∃ M1, f_X7_makeUnit T t M = some M1 ∧ zT M1 t p zq_one ∧ zo M M1 t p := by
  have e : M = zf M p (M.2.1 p) := (zf_self M p).symm
  refine ⟨zf (qv_upS M t 1 0) p (zu (zu (z_cl (M.2.1 p) 16) 0 1) 12 1), ?_, ?_, (zo_S M t p 0).tr (zo_zf _ t p _)⟩
  · unfold f_X7_makeUnit
    conv => lhs; rw [e]
    rw [z_clearParts hp]
    simp only [qv_bo, zi_lit, z_placeOf, Nat.reduceMul, Nat.reduceAdd, Nat.zero_add, Nat.zero_mul, Nat.one_mul, hp]
    simp (disch := omega) only [zi_stL, zf_up, qv_pS, zf_S]
  · refine zT_zf ?_ (zs_at _ _ _ _)
    apply zh_mk <;> simp [zu, z_cl, zq_one]
theorem z_makeCopy {T : List qv_Ent} {t p t1 p1 : Nat} (hp : qv_rf T t 0 = p) (hp1 : qv_rf T t1 0 = p1) {M : qv_Mem} {A : zq_T} (h : zT M t1 p1 A) : ∃ M1, f_X7_makeCopy T t t1 M = some M1 ∧ zT M1 t p A ∧ zo M M1 t p := by
  refine ⟨zf (qv_upS M t 1 (M.2.2 t1 1)) p (fun j => va_cpy (M.2.1 p1) (M.2.1 p) 0 0 16 j), ?_, ?_, (zo_S M t p _).tr (zo_zf _ t p _)⟩
  · unfold f_X7_makeCopy qv_cc
    rw [if_pos (by decide), hp, hp1]
    rfl
  · refine zT_zf ?_ (by rw [zs_at]; exact h.2)
    intro j hj
    rw [← h.1 j hj]
    show (if 0 ≤ j ∧ j < 0 + 16 then M.2.1 p1 (0 + (j - 0)) else M.2.1 p j) = _
    rw [if_pos (by omega)]
    congr 1
    omega
