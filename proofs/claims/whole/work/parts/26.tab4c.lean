theorem z_makeUnit {T : List qv_Ent} {t p : Nat} (hp : qv_rf T t 0 = p) (M : qv_Mem) : ∃ M1, f_X7_makeUnit T t M = some M1 ∧ zT M1 t p zq_one ∧ zo M M1 t p := by
  have e : M = zf M p (M.2.1 p) := (zf_self M p).symm
  refine ⟨zf (qv_upS M t 1 0) p (zu (zu (z_cl (M.2.1 p) 16) 0 1) 12 1), ?_, ?_, (zo_S M t p 0).tr (zo_zf _ t p _)⟩
  · unfold f_X7_makeUnit
    conv => lhs; rw [e]
    rw [z_clearParts hp]
    simp only [qv_bo, zi_lit, z_placeOf, Nat.reduceMul, Nat.reduceAdd, Nat.zero_add, Nat.zero_mul, Nat.one_mul, hp]
    simp (disch := omega) only [zi_stL, zf_up, qv_pS, zf_S]
  · refine zT_zf ?_ (zs_at _ _ _ _)
    apply zh_mk <;> simp [zu, z_cl, zq_one]
theorem z_makeCopy {T : List qv_Ent} {t p t1 p1 : Nat} (hp : qv_rf T t 0 = p) (hp1 : qv_rf T t1 0 = p1) {M : qv_Mem} {A : zq_T} (h : zT M t1 p1 A) : ∃ M1, f_X7_makeCopy T t t1 M = some M1 ∧ zT M1 t p A ∧ zo M M1 t p := by
  refine ⟨zf (qv_upS M t 1 (M.2.2 t1 1)) p (fun j => va_cpy (M.2.1 p1) (M.2.1 p) 0 0 16 j), ?_, ?_, (zo_S M t p _).tr (zo_zf _ t p _)⟩
  · unfold f_X7_makeCopy qv_cc
    rw [if_pos (by decide), hp, hp1]
    rfl
  · refine zT_zf ?_ (by rw [zs_at]; exact h.2)
    intro j hj
    rw [← h.1 j hj]
    show (if 0 ≤ j ∧ j < 0 + 16 then M.2.1 p1 (0 + (j - 0)) else M.2.1 p j) = _
    rw [if_pos (by omega), show 0 + (j - 0) = j by omega]
