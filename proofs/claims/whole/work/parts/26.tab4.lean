def zw (z : zq_N) : zq_N := (-z.2.2.2, z.1, z.2.1, z.2.2.1)
theorem zw_ev (z : zq_N) : zq_ev (zw z) = zq_ev z := by
  obtain ⟨a, b, c, d⟩ := z
  have h1 : ((-d + b) % 2 = 0) = ((b + d) % 2 = 0) := propext ⟨fun h => by omega, fun h => by omega⟩
  show (decide ((-d + b) % 2 = 0) && decide ((a + c) % 2 = 0)) = (decide ((a + c) % 2 = 0) && decide ((b + d) % 2 = 0))
  rw [Bool.and_comm]
  congr 1
  exact decide_eq_decide.mpr (by rw [h1])
theorem zw_mul (z : zq_N) : zq_mul z (0, 1, 0, 0) = zw z ∧ zq_mul (0, 1, 0, 0) z = zw z := by
  obtain ⟨a, b, c, d⟩ := z
  constructor <;> (simp only [zq_mul, zw, Prod.mk.injEq]; refine ⟨?_, ?_, ?_, ?_⟩ <;> omega)
theorem zw_mul2 (z : zq_N) : zq_mul z (0, 0, 1, 0) = zw (zw z) ∧ zq_mul (0, 0, 1, 0) z = zw (zw z) := by
  obtain ⟨a, b, c, d⟩ := z
  constructor <;> (simp only [zq_mul, zw, Prod.mk.injEq]; refine ⟨?_, ?_, ?_, ?_⟩ <;> omega)
theorem zw_mul4 (z : zq_N) : zq_mul z (-1, 0, 0, 0) = zw (zw (zw (zw z))) ∧ zq_mul (-1, 0, 0, 0) z = zw (zw (zw (zw z))) := by
  obtain ⟨a, b, c, d⟩ := z
  constructor <;> (simp only [zq_mul, zw, Prod.mk.injEq]; refine ⟨?_, ?_, ?_, ?_⟩ <;> omega)
theorem zw_mul7 (z : zq_N) : zq_mul z (0, 0, 0, -1) = zw (zw (zw (zw (zw (zw (zw z)))))) ∧ zq_mul (0, 0, 0, -1) z = zw (zw (zw (zw (zw (zw (zw z)))))) := by
  obtain ⟨a, b, c, d⟩ := z
  constructor <;> (simp only [zq_mul, zw, Prod.mk.injEq]; refine ⟨?_, ?_, ?_, ?_⟩ <;> omega)
theorem zw_mul1 (z : zq_N) : zq_mul z (1, 0, 0, 0) = z ∧ zq_mul (1, 0, 0, 0) z = z := by
  obtain ⟨a, b, c, d⟩ := z
  constructor <;> (simp only [zq_mul, Prod.mk.injEq]; refine ⟨?_, ?_, ?_, ?_⟩ <;> omega)
theorem zw_mul0 (z : zq_N) : zq_mul z (0, 0, 0, 0) = (0, 0, 0, 0) ∧ zq_mul (0, 0, 0, 0) z = (0, 0, 0, 0) := by
  obtain ⟨a, b, c, d⟩ := z
  constructor <;> (simp only [zq_mul, Prod.mk.injEq]; refine ⟨?_, ?_, ?_, ?_⟩ <;> omega)
theorem zw_add0 (z : zq_N) : zq_add z (0, 0, 0, 0) = z ∧ zq_add (0, 0, 0, 0) z = z := by
  obtain ⟨a, b, c, d⟩ := z
  constructor <;> (simp only [zq_add, Prod.mk.injEq]; refine ⟨?_, ?_, ?_, ?_⟩ <;> omega)
theorem zg_ov (A : zq_F) {g : Nat} (h0 : g ≠ 0) (hg : g < 7) : zq_ov (zq_pmF A (zq_gt g).1) = zq_ov A ∧ zq_ov (zq_pmF (zq_gt g).1 A) = zq_ov A := by
  have bc : ∀ a b c d : Bool, (a && (b && (c && d))) = (b && (a && (d && c))) ∧ (a && (b && (c && d))) = (c && (d && (a && b))) := by decide
  match g, hg, h0 with
  | 1, _, _ => exact ⟨by simp only [zq_pmF, show (zq_gt 1).1 = ((1, 0, 0, 0), (0, 0, 0, 0), (0, 0, 0, 0), (0, 1, 0, 0)) from rfl, (zw_mul _).1, (zw_mul _).2, (zw_mul1 _).1, (zw_mul1 _).2, (zw_mul0 _).1, (zw_mul0 _).2, (zw_add0 _).1, (zw_add0 _).2, zq_ov, zw_ev], by simp only [zq_pmF, show (zq_gt 1).1 = ((1, 0, 0, 0), (0, 0, 0, 0), (0, 0, 0, 0), (0, 1, 0, 0)) from rfl, (zw_mul _).1, (zw_mul _).2, (zw_mul1 _).1, (zw_mul1 _).2, (zw_mul0 _).1, (zw_mul0 _).2, (zw_add0 _).1, (zw_add0 _).2, zq_ov, zw_ev]⟩
  | 2, _, _ => exact ⟨by simp only [zq_pmF, show (zq_gt 2).1 = ((1, 0, 0, 0), (0, 0, 0, 0), (0, 0, 0, 0), (0, 0, 1, 0)) from rfl, (zw_mul2 _).1, (zw_mul2 _).2, (zw_mul1 _).1, (zw_mul1 _).2, (zw_mul0 _).1, (zw_mul0 _).2, (zw_add0 _).1, (zw_add0 _).2, zq_ov, zw_ev], by simp only [zq_pmF, show (zq_gt 2).1 = ((1, 0, 0, 0), (0, 0, 0, 0), (0, 0, 0, 0), (0, 0, 1, 0)) from rfl, (zw_mul2 _).1, (zw_mul2 _).2, (zw_mul1 _).1, (zw_mul1 _).2, (zw_mul0 _).1, (zw_mul0 _).2, (zw_add0 _).1, (zw_add0 _).2, zq_ov, zw_ev]⟩
  | 3, _, _ => exact ⟨by simp only [zq_pmF, show (zq_gt 3).1 = ((0, 0, 0, 0), (1, 0, 0, 0), (1, 0, 0, 0), (0, 0, 0, 0)) from rfl, (zw_mul1 _).1, (zw_mul1 _).2, (zw_mul0 _).1, (zw_mul0 _).2, (zw_add0 _).1, (zw_add0 _).2, zq_ov]; exact (bc _ _ _ _).1, by simp only [zq_pmF, show (zq_gt 3).1 = ((0, 0, 0, 0), (1, 0, 0, 0), (1, 0, 0, 0), (0, 0, 0, 0)) from rfl, (zw_mul1 _).1, (zw_mul1 _).2, (zw_mul0 _).1, (zw_mul0 _).2, (zw_add0 _).1, (zw_add0 _).2, zq_ov]; exact (bc _ _ _ _).2⟩
  | 4, _, _ => exact ⟨by simp only [zq_pmF, show (zq_gt 4).1 = ((1, 0, 0, 0), (0, 0, 0, 0), (0, 0, 0, 0), (-1, 0, 0, 0)) from rfl, (zw_mul4 _).1, (zw_mul4 _).2, (zw_mul1 _).1, (zw_mul1 _).2, (zw_mul0 _).1, (zw_mul0 _).2, (zw_add0 _).1, (zw_add0 _).2, zq_ov, zw_ev], by simp only [zq_pmF, show (zq_gt 4).1 = ((1, 0, 0, 0), (0, 0, 0, 0), (0, 0, 0, 0), (-1, 0, 0, 0)) from rfl, (zw_mul4 _).1, (zw_mul4 _).2, (zw_mul1 _).1, (zw_mul1 _).2, (zw_mul0 _).1, (zw_mul0 _).2, (zw_add0 _).1, (zw_add0 _).2, zq_ov, zw_ev]⟩
  | 5, _, _ => exact ⟨by simp only [zq_pmF, show (zq_gt 5).1 = ((0, 1, 0, 0), (0, 0, 0, 0), (0, 0, 0, 0), (0, 1, 0, 0)) from rfl, (zw_mul _).1, (zw_mul _).2, (zw_mul0 _).1, (zw_mul0 _).2, (zw_add0 _).1, (zw_add0 _).2, zq_ov, zw_ev], by simp only [zq_pmF, show (zq_gt 5).1 = ((0, 1, 0, 0), (0, 0, 0, 0), (0, 0, 0, 0), (0, 1, 0, 0)) from rfl, (zw_mul _).1, (zw_mul _).2, (zw_mul0 _).1, (zw_mul0 _).2, (zw_add0 _).1, (zw_add0 _).2, zq_ov, zw_ev]⟩
  | 6, _, _ => exact ⟨by simp only [zq_pmF, show (zq_gt 6).1 = ((1, 0, 0, 0), (0, 0, 0, 0), (0, 0, 0, 0), (0, 0, 0, -1)) from rfl, (zw_mul7 _).1, (zw_mul7 _).2, (zw_mul1 _).1, (zw_mul1 _).2, (zw_mul0 _).1, (zw_mul0 _).2, (zw_add0 _).1, (zw_add0 _).2, zq_ov, zw_ev], by simp only [zq_pmF, show (zq_gt 6).1 = ((1, 0, 0, 0), (0, 0, 0, 0), (0, 0, 0, 0), (0, 0, 0, -1)) from rfl, (zw_mul7 _).1, (zw_mul7 _).2, (zw_mul1 _).1, (zw_mul1 _).2, (zw_mul0 _).1, (zw_mul0 _).2, (zw_add0 _).1, (zw_add0 _).2, zq_ov, zw_ev]⟩
  | g + 7, h, _ => omega
theorem zg_e {g : Nat} (h0 : g ≠ 0) (hg : g < 7) : (zq_gt g).2 = 0 := by
  match g, hg, h0 with
  | 1, _, _ => rfl
  | 2, _, _ => rfl
  | 3, _, _ => rfl
  | 4, _, _ => rfl
  | 5, _, _ => rfl
  | 6, _, _ => rfl
  | g + 7, h, _ => omega
theorem zg_lm {A : zq_T} (hl : zq_ls A) {g : Nat} (h0 : g ≠ 0) (hg : g < 7) : zq_lm A (zq_gt g) = (zq_pmF A.1 (zq_gt g).1, A.2) ∧ zq_lm (zq_gt g) A = (zq_pmF (zq_gt g).1 A.1, A.2) := by
  obtain ⟨o1, o2⟩ := zg_ov A.1 h0 hg
  have e := zg_e h0 hg
  constructor
  · unfold zq_lm
    have : zq_pm A (zq_gt g) = (zq_pmF A.1 (zq_gt g).1, A.2) := by simp [zq_pm, e]
    rw [this]
    apply zq_ls_low
    rcases hl with h | h
    · exact Or.inl h
    · exact Or.inr (by rw [o1]; exact h)
  · unfold zq_lm
    have : zq_pm (zq_gt g) A = (zq_pmF (zq_gt g).1 A.1, A.2) := by simp [zq_pm, e]
    rw [this]
    apply zq_ls_low
    rcases hl with h | h
    · exact Or.inl h
    · exact Or.inr (by rw [o2]; exact h)
theorem zb_mk {A : zq_F} {n : Int} (h0 : (-n ≤ A.1.1 ∧ A.1.1 ≤ n) ∧ (-n ≤ A.1.2.1 ∧ A.1.2.1 ≤ n) ∧ (-n ≤ A.1.2.2.1 ∧ A.1.2.2.1 ≤ n) ∧ (-n ≤ A.1.2.2.2 ∧ A.1.2.2.2 ≤ n)) (h1 : (-n ≤ A.2.1.1 ∧ A.2.1.1 ≤ n) ∧ (-n ≤ A.2.1.2.1 ∧ A.2.1.2.1 ≤ n) ∧ (-n ≤ A.2.1.2.2.1 ∧ A.2.1.2.2.1 ≤ n) ∧ (-n ≤ A.2.1.2.2.2 ∧ A.2.1.2.2.2 ≤ n)) (h2 : (-n ≤ A.2.2.1.1 ∧ A.2.2.1.1 ≤ n) ∧ (-n ≤ A.2.2.1.2.1 ∧ A.2.2.1.2.1 ≤ n) ∧ (-n ≤ A.2.2.1.2.2.1 ∧ A.2.2.1.2.2.1 ≤ n) ∧ (-n ≤ A.2.2.1.2.2.2 ∧ A.2.2.1.2.2.2 ≤ n)) (h3 : (-n ≤ A.2.2.2.1 ∧ A.2.2.2.1 ≤ n) ∧ (-n ≤ A.2.2.2.2.1 ∧ A.2.2.2.2.1 ≤ n) ∧ (-n ≤ A.2.2.2.2.2.1 ∧ A.2.2.2.2.2.1 ≤ n) ∧ (-n ≤ A.2.2.2.2.2.2 ∧ A.2.2.2.2.2.2 ≤ n)) : zb A n := by
  intro i hi
  match i, hi with
  | 0, _ => exact h0
  | 1, _ => exact h1
  | 2, _ => exact h2
  | 3, _ => exact h3
  | i + 4, h => omega
theorem zb_H {A : zq_F} {n : Int} (h : zb A n) : zb (zq_pmF A (zq_gt 0).1) (2 * n) ∧ zb (zq_pmF (zq_gt 0).1 A) (2 * n) := by
  have a0 : (-n ≤ A.1.1 ∧ A.1.1 ≤ n) ∧ (-n ≤ A.1.2.1 ∧ A.1.2.1 ≤ n) ∧ (-n ≤ A.1.2.2.1 ∧ A.1.2.2.1 ≤ n) ∧ (-n ≤ A.1.2.2.2 ∧ A.1.2.2.2 ≤ n) := h 0 (by omega)
  have a1 : (-n ≤ A.2.1.1 ∧ A.2.1.1 ≤ n) ∧ (-n ≤ A.2.1.2.1 ∧ A.2.1.2.1 ≤ n) ∧ (-n ≤ A.2.1.2.2.1 ∧ A.2.1.2.2.1 ≤ n) ∧ (-n ≤ A.2.1.2.2.2 ∧ A.2.1.2.2.2 ≤ n) := h 1 (by omega)
  have a2 : (-n ≤ A.2.2.1.1 ∧ A.2.2.1.1 ≤ n) ∧ (-n ≤ A.2.2.1.2.1 ∧ A.2.2.1.2.1 ≤ n) ∧ (-n ≤ A.2.2.1.2.2.1 ∧ A.2.2.1.2.2.1 ≤ n) ∧ (-n ≤ A.2.2.1.2.2.2 ∧ A.2.2.1.2.2.2 ≤ n) := h 2 (by omega)
  have a3 : (-n ≤ A.2.2.2.1 ∧ A.2.2.2.1 ≤ n) ∧ (-n ≤ A.2.2.2.2.1 ∧ A.2.2.2.2.1 ≤ n) ∧ (-n ≤ A.2.2.2.2.2.1 ∧ A.2.2.2.2.2.1 ≤ n) ∧ (-n ≤ A.2.2.2.2.2.2 ∧ A.2.2.2.2.2.2 ≤ n) := h 3 (by omega)
  clear h
  obtain ⟨⟨a, b, c, d⟩, ⟨e, f, k, l⟩, ⟨i, j, m, o⟩, ⟨p, q, r, s⟩⟩ := A
  dsimp only at a0 a1 a2 a3
  rw [show (zq_gt 0).1 = ((1, 0, 0, 0), (1, 0, 0, 0), (1, 0, 0, 0), (-1, 0, 0, 0)) from rfl]
  constructor
  · apply zb_mk <;> (dsimp only [zq_pmF, zq_mul, zq_add]; refine ⟨⟨?_, ?_⟩, ⟨?_, ?_⟩, ⟨?_, ?_⟩, ?_, ?_⟩ <;> omega)
  · apply zb_mk <;> (dsimp only [zq_pmF, zq_mul, zq_add]; refine ⟨⟨?_, ?_⟩, ⟨?_, ?_⟩, ⟨?_, ?_⟩, ?_, ?_⟩ <;> omega)
