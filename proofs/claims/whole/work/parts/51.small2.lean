/-! feed of the reference; word, on both sides. -/
def ytr (M M1 : qv_Mem) : Prop := M1.2.1 = M.2.1 ∧ (∀ a, a ≠ 126 → M1.1 a = M.1 a) ∧ ∀ a k, ¬ (a = 106 ∧ k = 24) → M1.2.2 a k = M.2.2 a k
theorem y_in32 {p : Int32} : f_X10_isIn p.toInt64 32 126 = some (if p.toInt < 32 ∨ 126 < p.toInt then 0 else 1) := by
  unfold f_X10_isIn
  have e : p.toInt64.toInt = p.toInt := Int32.toInt_toInt64 p
  have z : (32 : Int64).toInt = 32 := by decide
  have y : (126 : Int64).toInt = 126 := by decide
  by_cases c1 : p.toInt < 32
  · rw [if_pos ((lg_cmp_lt _ _).mpr (Int64.lt_iff_toInt_lt.mpr (by rw [e, z]; exact c1))), if_pos (Or.inl c1)]
  · rw [if_neg (fun q => by have := Int64.lt_iff_toInt_lt.mp ((lg_cmp_lt _ _).mp q); rw [e, z] at this; omega)]
    by_cases c2 : 126 < p.toInt
    · rw [if_pos ((lg_cmp_gt _ _).mpr (Int64.lt_iff_toInt_lt.mpr (by rw [e, y]; exact c2))), if_pos (Or.inr c2)]
    · rw [if_neg (fun q => by have := Int64.lt_iff_toInt_lt.mp ((lg_cmp_gt _ _).mp q); rw [e, y] at this; omega), if_neg (fun q => q.elim c1 c2)]
theorem y_feed {M : qv_Mem} {B : List Nat} (h : yTp M B) (p : Int32) : ∃ M1, f_X10_feed qv_TT 106 p M = some ((a_feed B p).1, M1) ∧ yTp M1 (a_feed B p).2 ∧ ytr M M1 := by
  have h80 := h.2.1
  unfold f_X10_feed a_feed
  rw [y_in32, zbo]
  by_cases c : p.toInt < 32 ∨ 126 < p.toInt
  · rw [if_pos c, if_pos rfl, if_pos c]
    exact ⟨M, rfl, h, rfl, fun _ _ => rfl, fun _ _ _ => rfl⟩
  · rw [if_neg c, if_neg zl1n0, if_neg c, zgS, h.1]
    obtain ⟨v, -, v2, rfl⟩ | hz := zr_in p 127
    · by_cases hl : B.length = 80
      · rw [if_pos (by rw [hl]; rfl), if_pos hl]
        exact ⟨M, rfl, h, rfl, fun _ _ => rfl, fun _ _ _ => rfl⟩
      · rw [if_neg (by rw [zl80]; exact fun q => hl ((nI_eq (by omega) (by omega)).mp q)), zgS, h.1, zt_ytp, zi_stI (by omega) (by omega), zgS, zpS]
        have e : (qv_upI M 126 B.length (nI v)).2.2 106 24 = nI B.length := h.1
        rw [e, nI_1, zgS, zs_at, if_neg hl, zi_cl v2, zgi_u1]
        refine ⟨_, rfl, ⟨?_, ?_, fun i hi => ?_⟩, rfl, fun a ha => zgi_ne ha, fun a k hk => zs_ne2 hk⟩
        · rw [zs_at]
          show _ = nI (B ++ [v]).length
          rw [List.length_append, List.length_singleton]
        · show (B ++ [v]).length ≤ 80
          rw [List.length_append, List.length_singleton]; omega
        · show (zgi M 126 (zui (M.1 126) B.length (nI v))).1 126 i = _
          rw [zgi_at]
          exact b_snoc h.2.2 i hi
    · exfalso
      rcases hz with hz | hz <;> omega
def a_word (W : Nat → List Nat) (P : Nat → Nat) (p q : Int32) : Int32 :=
  if zr p 3 then -1 else if -2 ≤ q then (if q = -2 then nI (w_co (W p.toNatClampNeg) P (W p.toNatClampNeg).length) else if q = -1 then nI (W p.toNatClampNeg).length else if zr q (W p.toNatClampNeg).length then -2 else nI ((W p.toNatClampNeg).getD q.toNatClampNeg 0)) else -1
theorem x_word {M : qv_Mem} {W : Nat → List Nat} {P : Nat → Nat} (hW : zCW M W) (hk : zWk W) (hP : zCP M P) (p q : Int32) : f_X9_word qv_TT 0 p q M = some (a_word W P p q) := by
  unfold f_X9_word a_word
  rcases zr_in p 3 with ⟨w, hw, w2, rfl⟩ | h
  · rw [x_isWord hw, zbo, if_neg zl1n0, if_neg (zr_n hw w2), zt_w hw, zi_cl w2, zi_in hw (by omega), zt_bench, zt_price]
    by_cases c1 : -2 ≤ q
    · rw [if_pos c1, if_pos c1]
      by_cases c2 : q = -2
      · rw [if_pos c2, if_pos c2, zgd, w_costBy (zt_wl hw) (hW w hw) (hk w hw).2 hP, zbo]
      · rw [if_neg c2, if_neg c2]
        by_cases c3 : q = -1
        · rw [if_pos c3, if_pos c3, zgd, zgS, (hW w hw).1]
        · rw [if_neg c3, if_neg c3, zgd]
          rcases zr_in q (W w).length with ⟨i, hi, i2, rfl⟩ | hq
          · rw [w_at (zt_wl hw) (hW w hw) hi, zbo, if_neg (zr_n hi i2), zi_cl i2]
          · rw [w_at0 (hW w hw) hq, zbo, if_pos hq]
    · rw [if_neg c1, if_neg c1]
  · rw [x_isWord0 h, zbo, if_pos rfl, if_pos h]
theorem y_cost {M : qv_Mem} {W : Nat → List Nat} {P : Nat → Nat} (hW : yW M W) (hk : zWk W) (hP : yP M P) {w : Nat} (hw : w < 3) (k : Int32 → Option Int32) : qv_lp2 (b_X10_word_20 106 (nI w) M qv_TT k) qv_N (nI 0) (nI 0) = k (nI (w_co (W w) P (W w).length)) := by
  obtain ⟨a1, a2, a3⟩ := hW w hw
  refine zfor2c (b := b_X10_word_20 106 (nI w) M qv_TT k) (fun i => nI (w_co (W w) P i)) (fun i => nI i) 0 (W w).length (by omega) (fun i r _ hi => ?_) (fun r => ?_) qv_N (qv_N_gt _ (by omega))
  · unfold b_X10_word_20
    have g := zg_get (hk w hw).2 i
    rw [zt_size, zi_ldI hw (by omega), a1, if_neg (nI_ge hi (by omega)), zt_word, zt_yprice, zl60, zi_mul, nI_add, zi_ldI (by omega) (by omega), a3 i hi, zi_ldI (by omega) (by omega), hP _ g, nI_1, nI_add]
    rfl
  · unfold b_X10_word_20
    rw [zt_size, zi_ldI hw (by omega), a1, if_pos (nI_le (Nat.le_refl _) (by omega))]
theorem y_word {M : qv_Mem} {W : Nat → List Nat} {P : Nat → Nat} (hW : yW M W) (hk : zWk W) (hP : yP M P) (p q : Int32) : f_X10_word qv_TT 106 p q M = some (a_word W P p q) := by
  unfold f_X10_word a_word
  rcases zr_in p 3 with ⟨w, hw, w2, rfl⟩ | h
  · obtain ⟨a1, a2, a3⟩ := hW w hw
    rw [y_isWord hw, zbo, if_neg zl1n0, if_neg (zr_n hw w2), zi_cl w2]
    by_cases c1 : -2 ≤ q
    · rw [if_pos c1, if_pos c1, zjn]
      have key := y_cost hW hk hP hw (fun (v2 : Int32) => (if q = (-2) then some v2 else (if q = (-1) then qv_ldI 3 (qv_rf qv_TT 106 6) (nI w) M (fun v6 => some v6) else qv_ldI 3 (qv_rf qv_TT 106 6) (nI w) M (fun v4 => (if v4 ≤ q then some (-2) else qv_ldI 180 (qv_rf qv_TT 106 5) ((60 * (nI w)) + q) M (fun v5 => some v5))))))
      rw [← zi_0] at key
      rw [key]
      by_cases c2 : q = -2
      · rw [if_pos c2, if_pos c2]
      · rw [if_neg c2, if_neg c2]
        by_cases c3 : q = -1
        · rw [if_pos c3, if_pos c3, zt_size, zi_ldI hw (by omega), a1]
        · rw [if_neg c3, if_neg c3, zt_size, zi_ldI hw (by omega), a1]
          rcases zr_in q (W w).length with ⟨i, hi, i2, rfl⟩ | hq
          · rw [if_neg (nI_ge hi (by omega)), zt_word, zl60, zi_mul, nI_add, zi_ldI (by omega) (by omega), a3 i hi, if_neg (zr_n hi i2), zi_cl i2]
          · have hn : ¬ q.toInt < 0 := fun hz => by
              have d1 : (-2 : Int32).toInt = -2 := by decide
              have d2 : (-1 : Int32).toInt = -1 := by decide
              have := Int32.le_iff_toInt_le.mp c1
              rw [d1] at this
              have x1 : q.toInt ≠ -2 := fun e => c2 (Int32.toInt_inj.mp (by rw [e, d1]))
              have x2 : q.toInt ≠ -1 := fun e => c3 (Int32.toInt_inj.mp (by rw [e, d2]))
              omega
            have hq2 : ((W w).length : Int) ≤ q.toInt := hq.resolve_left hn
            rw [if_pos (show nI (W w).length ≤ q from Int32.le_iff_toInt_le.mpr (by rw [nI_toInt (by omega)]; exact hq2)), if_pos hq]
    · rw [if_neg c1, if_neg c1]
  · rw [y_isWord0 h, zbo, if_pos rfl, if_pos h]
