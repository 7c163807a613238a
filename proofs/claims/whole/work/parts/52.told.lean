/-! told, on both sides. -/
def p_sum (P : Nat → Nat) : Nat → Nat
  | 0 => 0
  | n + 1 => p_sum P n + P n
def w_cq (l : List Nat) (x : Int32) : Nat → Nat
  | 0 => 0
  | n + 1 => w_cq l x n + (if nI (l.getD n 0) = x then 1 else 0)
def w_ct (W : Nat → List Nat) (x : Int32) : Nat → Nat
  | 0 => 0
  | w + 1 => w_ct W x w + w_cq (W w) x (W w).length
def a_told (W : Nat → List Nat) (P : Nat → Nat) (Hs : List (Nat × List Nat)) (B : List Nat) (p : Int32) : Int32 :=
  if zr p 10 then -1 else if p = 0 then nI Hs.length else if p = 1 then nI B.length else if p = 2 then nI (p_sum P 7) else nI (w_ct W (p - 3) 3)
theorem w_countX {T : List qv_Ent} {t p : Nat} (hp : qv_rf T t 0 = p) {M : qv_Mem} {l : List Nat} (h : zR M t p l) (x : Int32) : f_X6_countOf T t x M = some (nI (w_cq l x l.length)) := by
  have h60 := h.2.1
  unfold f_X6_countOf
  rw [zjn, zi_0]
  refine zfor2c (b := b_X6_countOf_4 t x M T (fun v1 => some v1)) (fun i => nI (w_cq l x i)) (fun i => nI i) 0 l.length (by omega) (fun i r _ hi => ?_) (fun r => ?_) qv_N (qv_N_gt _ (by omega))
  · unfold b_X6_countOf_4
    dsimp only
    rw [zgS, h.1, if_neg (nI_ge hi (by omega)), hp, zi_ldI (by omega) (by omega), h.2.2 i hi, zjn, nI_1, nI_1]
    show _ = r (nI (w_cq l x i + (if nI (l.getD i 0) = x then 1 else 0))) _
    by_cases e : nI (l.getD i 0) = x
    · rw [if_pos e, if_pos e]
    · rw [if_neg e, if_neg e]
      rfl
  · unfold b_X6_countOf_4
    dsimp only
    rw [zgS, h.1, if_pos (nI_le (Nat.le_refl _) (by omega))]
theorem x_sumPrices {M : qv_Mem} {P : Nat → Nat} (hP : zCP M P) : f_X0_sumPrices qv_TT 1 M = some (nI (p_sum P 7)) := by
  unfold f_X0_sumPrices
  rw [zjn, zi_0]
  refine zfor2c (b := b_X0_sumPrices_13 1 M qv_TT (fun v1 => some v1)) (fun i => nI (p_sum P i)) (fun i => nI i) 0 7 (by omega) (fun i r _ hi => ?_) (fun r => ?_) qv_N (qv_N_gt _ (by omega))
  · unfold b_X0_sumPrices_13
    dsimp only
    rw [zl7, if_neg (zi_nle (a := 7) (b := i) (by omega) (by omega)), zt_price, zi_ldI hi (by omega), hP i hi, nI_1, nI_add]
    rfl
  · unfold b_X0_sumPrices_13
    dsimp only
    rw [zl7, if_pos (nI_le (Nat.le_refl _) (by omega))]
theorem x_countGate {M : qv_Mem} {W : Nat → List Nat} (hW : zCW M W) (x : Int32) : f_X0_countGate qv_TT 1 x M = some (nI (w_ct W x 3)) := by
  unfold f_X0_countGate
  rw [zjn, zi_0]
  refine zfor2c (b := b_X0_countGate_14 1 x M qv_TT (fun v1 => some v1)) (fun i => nI (w_ct W x i)) (fun i => nI i) 0 3 (by omega) (fun i r _ hi => ?_) (fun r => ?_) qv_N (qv_N_gt _ (by omega))
  · unfold b_X0_countGate_14
    dsimp only
    rw [zl3, if_neg (zi_nle (a := 3) (b := i) (by omega) (by omega)), zi_in hi (by omega), zgd, zt_wrds, zi_cl (by omega), zt_wrd hi, w_countX (zt_wl hi) (hW i hi), zbo, nI_1, nI_add]
    rfl
  · unfold b_X0_countGate_14
    dsimp only
    rw [zl3, if_pos (nI_le (Nat.le_refl _) (by omega))]
theorem zr_sub3 {p : Int32} (h : zr p 10) : zr (p - 3) 7 := by
  have h1 := Int32.le_toInt p
  have h2 := Int32.toInt_lt p
  have e : (p - 3).toInt = (p.toInt - 3).bmod (2 ^ 32) := by
    rw [Int32.toInt_sub]
    rfl
  unfold zr at h ⊢
  rw [e, Int.bmod_def]
  rcases h with h | h
  · by_cases q : p.toInt - 3 < -2147483648
    · right; split <;> omega
    · left; split <;> omega
  · right; split <;> omega
theorem x_told {M : qv_Mem} {W : Nat → List Nat} {P : Nat → Nat} {Hs : List (Nat × List Nat)} {B : List Nat} (hW : zCW M W) (hP : zCP M P) (hH : zH M Hs) (hB : zTp M B) (p : Int32) : f_X9_told qv_TT 0 p M = some (a_told W P Hs B p) := by
  obtain ⟨nx, n1, n2, n3, n4, n5⟩ := hH
  unfold f_X9_told a_told
  rw [zt_hist, zt_tape, zt_bench]
  rcases zr_in p 10 with ⟨v, hv, v2, rfl⟩ | h
  · rw [if_neg (zr_n hv v2)]
    by_cases c0 : nI v = 0
    · rw [if_pos c0, if_pos c0, zgS, n3]
    · rw [if_neg c0, if_neg c0]
      by_cases c1 : nI v = 1
      · rw [if_pos c1, if_pos c1, zgS, hB.1]
      · rw [if_neg c1, if_neg c1]
        by_cases c2 : nI v = 2
        · rw [if_pos c2, if_pos c2, x_sumPrices hP, zbo]
        · have hv3 : 3 ≤ v := by
            rw [zi_0] at c0
            rw [zl1i] at c1
            rw [zl2i] at c2
            have d0 : v ≠ 0 := fun q => c0 (by rw [q])
            have d1 : v ≠ 1 := fun q => c1 (by rw [q])
            have d2 : v ≠ 2 := fun q => c2 (by rw [q])
            omega
          have e3 : nI v - 3 = nI (v - 3) := by rw [zl3, zi_sub hv3 v2]
          rw [if_neg c2, if_neg c2, e3, x_isGate (by omega), zbo, if_neg zl1n0, x_countGate hW, zbo]
  · have d : ∀ u : Nat, u < 10 → p ≠ nI u := fun u hu e => zr_n (n := 10) hu (by omega) (e ▸ h)
    have d0 : ¬ p = 0 := by rw [zi_0]; exact d 0 (by omega)
    have d1 : ¬ p = 1 := by rw [zl1i]; exact d 1 (by omega)
    have d2 : ¬ p = 2 := by rw [zl2i]; exact d 2 (by omega)
    rw [if_pos h, if_neg d0, if_neg d1, if_neg d2, x_isGate0 (zr_sub3 h), zbo, if_pos rfl]
theorem y_told18 {M : qv_Mem} {P : Nat → Nat} (hP : yP M P) (k : Int32 → Option Int32) : qv_lp2 (b_X10_told_18 106 M qv_TT k) qv_N (nI 0) (nI 0) = k (nI (p_sum P 7)) := by
  refine zfor2c (b := b_X10_told_18 106 M qv_TT k) (fun i => nI (p_sum P i)) (fun i => nI i) 0 7 (by omega) (fun i r _ hi => ?_) (fun r => ?_) qv_N (qv_N_gt _ (by omega))
  · unfold b_X10_told_18
    rw [zl7, if_neg (zi_nle (a := 7) (b := i) (by omega) (by omega)), zt_yprice, zi_ldI hi (by omega), hP i hi, nI_1, nI_add]
    rfl
  · unfold b_X10_told_18
    rw [zl7, if_pos (nI_le (Nat.le_refl _) (by omega))]
theorem y_told53 {M : qv_Mem} {W : Nat → List Nat} (hW : yW M W) (p : Int32) {w : Nat} (hw : w < 3) (c : Nat) (k : Int32 → Option Int32) : qv_lp2 (b_X10_told_53 106 p M qv_TT (nI w) k) qv_N (nI c) (nI 0) = k (nI (c + w_cq (W w) (p - 3) (W w).length)) := by
  obtain ⟨a1, a2, a3⟩ := hW w hw
  refine zfor2c (b := b_X10_told_53 106 p M qv_TT (nI w) k) (fun i => nI (c + w_cq (W w) (p - 3) i)) (fun i => nI i) 0 (W w).length (by omega) (fun i r _ hi => ?_) (fun r => ?_) qv_N (qv_N_gt _ (by omega))
  · unfold b_X10_told_53
    rw [zt_size, zi_ldI hw (by omega), a1, if_neg (nI_ge hi (by omega)), zt_word, zl60, zi_mul, nI_add, zi_ldI (by omega) (by omega), a3 i hi, zjn, nI_1]
    show _ = r (nI (c + (w_cq (W w) (p - 3) i + (if nI ((W w).getD i 0) = p - 3 then 1 else 0)))) _
    by_cases e : nI ((W w).getD i 0) = p - 3
    · rw [if_pos e, if_pos e]
      dsimp only
      rw [nI_1, Nat.add_assoc]
    · rw [if_neg e, if_neg e]
      dsimp only
      rw [zi_0, nI_add, Nat.add_assoc]
  · unfold b_X10_told_53
    rw [zt_size, zi_ldI hw (by omega), a1, if_pos (nI_le (Nat.le_refl _) (by omega))]
theorem y_told44 {M : qv_Mem} {W : Nat → List Nat} (hW : yW M W) (p : Int32) (k : Int32 → Option Int32) : qv_lp2 (b_X10_told_44 106 p M qv_TT k) qv_N (nI 0) (nI 0) = k (nI (w_ct W (p - 3) 3)) := by
  refine zfor2c (b := b_X10_told_44 106 p M qv_TT k) (fun i => nI (w_ct W (p - 3) i)) (fun i => nI i) 0 3 (by omega) (fun i r _ hi => ?_) (fun r => ?_) qv_N (qv_N_gt _ (by omega))
  · unfold b_X10_told_44
    rw [zl3, if_neg (zi_nle (a := 3) (b := i) (by omega) (by omega)), zjn, zi_0, ← zl3, y_told53 hW p hi, nI_1]
    rfl
  · unfold b_X10_told_44
    rw [zl3, if_pos (nI_le (Nat.le_refl _) (by omega))]
