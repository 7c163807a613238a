/-! comparing, coming -/
theorem y_same_lp {T : List qv_Ent} {t q : Nat} (hq : qv_rf T t 0 = q) (M : qv_Mem) {a b : Nat} (ha : a < 20) (hb : b < 20) (k : Int32 → Option Int32) (E : Nat → Bool) (h0 : E 0 = true) (hE : ∀ n, n < 17 → E (n + 1) = (E n && decide (M.2.1 q (17 * a + n) = M.2.1 q (17 * b + n)))) : qv_lp2 (b_X10_areSame_5 t (nI a) (nI b) M T k) qv_N (y_b2i (E 0)) (nI 0) = k (y_b2i (E 17)) := by
  refine zfor2c (c := fun i => y_b2i (E i)) (s := fun i => nI i) 0 17 (by omega) (fun i r h0 hi => ?_) (fun r => ?_) qv_N (qv_N_gt _ (by decide))
  · unfold b_X10_areSame_5
    rw [if_neg (show ¬ (17 : Int32) ≤ nI i from zi_nle (a := 17) (b := i) (by omega) (by omega)), show (17 : Int32) = nI 17 from rfl, pk_mul, nI_add, pk_mul, nI_add, hq, zi_ldL (by omega) (by omega), zi_ldL (by omega) (by omega), zjn, show (1 : Int32) = nI 1 from rfl, nI_add]
    show _ = r (y_b2i (E (i + 1))) (nI (i + 1))
    rw [hE i hi, ← y_and]
    by_cases he : M.2.1 q (17 * a + i) = M.2.1 q (17 * b + i)
    · rw [if_pos ((lg_cmp_eq _ _).mpr he)]
      simp only [he, decide_true]
      rfl
    · rw [if_neg (fun e => he ((lg_cmp_eq _ _).mp e))]
      simp only [he, decide_false]
      rfl
  · unfold b_X10_areSame_5
    rw [if_pos (show (17 : Int32) ≤ nI 17 from by decide)]
def y_eqs (F : Nat → Int64) (a b : Nat) : Nat → Bool
  | 0 => true
  | n + 1 => y_eqs F a b n && decide (F (17 * a + n) = F (17 * b + n))
theorem y_eqs_iff (F : Nat → Int64) (a b : Nat) : ∀ n, y_eqs F a b n = true ↔ ∀ j, j < n → F (17 * a + j) = F (17 * b + j)
  | 0 => ⟨fun _ j hj => by omega, fun _ => rfl⟩
  | n + 1 => by
    show (y_eqs F a b n && decide _) = true ↔ _
    rw [Bool.and_eq_true, y_eqs_iff F a b n, decide_eq_true_eq]
    constructor
    · intro h j hj
      by_cases e : j = n
      · rw [e]; exact h.2
      · exact h.1 j (by omega)
    · intro h
      exact ⟨fun j hj => h j (by omega), h n (by omega)⟩
theorem y_areSame {T : List qv_Ent} {t q : Nat} (hq : qv_rf T t 0 = q) {M : qv_Mem} {a b : Nat} (ha : a < 20) (hb : b < 20) {A B : zq_T} (hA : zS M q a A) (hB : zS M q b B) (ba : zb A.1 2305843009213693952) (bb : zb B.1 2305843009213693952) (ea : A.2 < 2147483648) (eb : B.2 < 2147483648) : (A = B → f_X10_areSame T t (nI a) (nI b) M = some 1) ∧ (A ≠ B → f_X10_areSame T t (nI a) (nI b) M = some 0) := by
  have h := y_same_lp hq M ha hb (fun v1 => qv_gd (qv_01 v1) (some v1)) (y_eqs (M.2.1 q) a b) rfl (fun n _ => rfl)
  have st : f_X10_areSame T t (nI a) (nI b) M = qv_gd (qv_01 (y_b2i (y_eqs (M.2.1 q) a b 17))) (some (y_b2i (y_eqs (M.2.1 q) a b 17))) := by
    unfold f_X10_areSame
    rw [zjn, ← h, zi_0]
    rfl
  rw [st]
  constructor
  · intro e
    subst e
    have : y_eqs (M.2.1 q) a b 17 = true := (y_eqs_iff _ a b 17).mpr (fun j hj => by
      by_cases h16 : j = 16
      · rw [h16, hA.2, hB.2]
      · have h1 : M.2.1 q (17 * a + j) = _ := hA.1 j (by omega)
        have h2 : M.2.1 q (17 * b + j) = _ := hB.1 j (by omega)
        rw [h1, h2])
    rw [this]
    rfl
  · intro e
    have : y_eqs (M.2.1 q) a b 17 = false := by
      apply Bool.eq_false_iff.mpr
      intro hh
      have hj := (y_eqs_iff _ a b 17).mp hh
      apply e
      refine Prod.ext (zc_ext fun j hj2 => ?_) ?_
      · have h1 : M.2.1 q (17 * a + j) = _ := hA.1 j hj2
        have h2 : M.2.1 q (17 * b + j) = _ := hB.1 j hj2
        have h3 := hj j (by omega)
        rw [h1, h2] at h3
        have b1 := zb_c ba hj2
        have b2 := zb_c bb hj2
        exact (ze_inj (by omega) (by omega) (by omega) (by omega)).mp h3
      · have h3 := hj 16 (by omega)
        rw [hA.2, hB.2] at h3
        have := (ze_inj (by omega) (by omega) (by omega) (by omega)).mp h3
        omega
    rw [this]
    rfl
