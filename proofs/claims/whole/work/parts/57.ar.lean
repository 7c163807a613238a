/-! What a row's gates come to; a row that has no gate there. -/
theorem a_ar_val {l : List Nat} : ∀ (n i : Nat) (A : zq_T), zq_ls A → i + n ≤ l.length → a_ar l n i A = zq_lm A (zq_val ((l.drop i).take n))
  | 0, i, A, hA, _ => by
    show A = zq_lm A (zq_val [])
    exact (zq_lm_one hA).symm
  | n + 1, i, A, hA, h => by
    have e : (l.drop i).take (n + 1) = l.getD i 0 :: (l.drop (i + 1)).take n := by
      rw [List.drop_eq_getElem_cons (show i < l.length by omega), List.take_succ_cons]
      congr 1
      simp [List.getD_eq_getElem?_getD, show i < l.length by omega]
    show a_ar l n (i + 1) (zq_lm A (zq_gt (l.getD i 0))) = _
    rw [a_ar_val n (i + 1) _ (zq_lm_ls _ _) (by omega), e, zq_val_cons, zq_lm_assoc]
theorem w_applyRow0 {T : List qv_Ent} {t t1 p1 : Nat} {l : List Nat} {a b : Nat} (hb : b ≤ 61) (ha : a ≤ 1000) {M : qv_Mem} (hab : min l.length b ≤ a) (hR : zR M t1 p1 l) : f_X7_applyRow T t t1 (nI a) (nI b) M = some M := by
  have h60 := hR.2.1
  unfold f_X7_applyRow
  rw [zgS, hR.1, zjn, if_neg (nI_pos (by omega))]
  obtain ⟨N, hN⟩ : ∃ g, qv_N = g + 1 := ⟨qv_N - 1, by have := qv_N_gt 5 (by omega); omega⟩
  rw [hN, zN2]
  unfold b_X7_applyRow_17
  rw [zi_min (by omega) (by omega), if_pos (nI_le hab (by omega))]
