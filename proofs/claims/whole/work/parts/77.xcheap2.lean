/-! cheapest: the class. -/
theorem pgs_drop : ∀ i, i < 5 → pgs.drop i = pgs.getD i 0 :: pgs.drop (i + 1) := by decide +kernel
theorem x_first {M : qv_Mem} {P : Nat → Nat} (hP : zPk P) (hR : zRn M P) (hL : zClP M) {k : Nat} (hk : k < 192) : f_X2_firstGateOf qv_TT 63 (nI k) M = some (zsn (fg P k)) := by
  unfold f_X2_firstGateOf
  rw [zjn, zi_0]
  have key1 : ∀ (n i f : Nat), i + n = 5 → n < f → qv_lp1 (b_X2_firstGateOf_10 63 (nI k) M qv_TT (fun _ => some (-2))) f (nI i) = some (zsn (fgL P k (pgs.drop i))) := by
    intro n
    induction n with
    | zero =>
      intro i f hi hf
      obtain ⟨f, rfl⟩ : ∃ g, f = g + 1 := ⟨f - 1, by omega⟩
      rw [zN1]
      unfold b_X2_firstGateOf_10
      rw [zl5i, if_pos (nI_le (by omega) (by omega)), show i = 5 by omega]
      rfl
    | succ n ih =>
      intro i f hi hf
      obtain ⟨f, rfl⟩ : ∃ g, f = g + 1 := ⟨f - 1, by omega⟩
      rw [zN1]
      have ih1 := ih (i + 1) f (by omega) (by omega)
      generalize qv_lp1 (b_X2_firstGateOf_10 63 (nI k) M qv_TT (fun _ => some (-2))) f = rr at ih1 ⊢
      unfold b_X2_firstGateOf_10
      have hg := (zpg i (by omega)).2
      rw [pgs_drop i (by omega)]
      rw [zl5i, if_neg (zi_nle (a := 5) (b := i) (by omega) (by omega)), zi_ldP (by omega)]
      generalize pgs.getD i 0 = g at hg ⊢
      have g7 := pgs_lt hg
      have l1 := (cl_lef hk hg).2
      have a := Dr_lt hP hk
      have b := Dr_lt hP l1
      have w := wK_le hP g7
      rw [zt_cl.2.2.1, zt_cl.2.2.2.2.2.1, zl7, zi_mul, nI_add, zi_ldI (by omega) (by omega), Nat.mul_comm k 7, hL.2.2.2 g hg k hk, zi_ldI l1 (by omega), hR.2 _ l1, x_weight hR.1 hg, zbo, zi_ldI hk (by omega), hR.2 k hk, nI_add, nI_1, ih1]
      unfold fgL
      by_cases c : Dr P (lef k g) + wK 1024 P g = Dr P k
      · rw [if_pos (by rw [c]), if_pos c]
        unfold zsn
        rw [if_pos g7]
      · rw [if_neg (fun z => c ((nI_eq (by omega) (by omega)).mp z)), if_neg c]
        cases pgs.drop (i + 1) <;> rfl
  exact key1 5 0 qv_N (by omega) (qv_N_gt _ (by omega))
theorem x_rest {M : qv_Mem} {P : Nat → Nat} (hP : zPk P) (hR : zRn M P) (hL : zClP M) {k : Nat} (hk : k < 192) (h0 : k ≠ 0) : f_X2_restOf qv_TT 63 (nI k) M = some (nI (lef k (fg P k))) := by
  obtain ⟨f1, -⟩ := fg_in (P := P) hk h0
  have g7 := pgs_lt f1
  unfold f_X2_restOf
  rw [x_first hP hR hL hk, zbo]
  unfold zsn
  rw [if_pos g7, if_pos (nI_pos' (by omega)), zt_cl.2.2.1, zl7, zi_mul, nI_add, zi_ldI (by omega) (by omega), Nat.mul_comm k 7, hL.2.2.2 _ f1 k hk]
noncomputable def rs (P : Nat → Nat) (k : Nat) : Nat → Nat
  | 0 => k
  | j + 1 => lef (rs P k j) (fg P (rs P k j))
theorem rs_succ (P : Nat → Nat) (k : Nat) : ∀ j, rs P k (j + 1) = rs P (lef k (fg P k)) j
  | 0 => rfl
  | j + 1 => by
    show lef (rs P k (j + 1)) (fg P (rs P k (j + 1))) = lef (rs P (lef k (fg P k)) j) (fg P (rs P (lef k (fg P k)) j))
    rw [rs_succ P k j]
theorem rs_in {P : Nat → Nat} {k : Nat} (hk : k < 192) : ∀ j, j ≤ Dr P k % 1024 → rs P k j < 192 ∧ Dr P (rs P k j) % 1024 + j = Dr P k % 1024
  | 0, _ => ⟨hk, rfl⟩
  | j + 1, hj => by
    obtain ⟨h1, h2⟩ := rs_in (P := P) hk j (by omega)
    have h0 : rs P k j ≠ 0 := fun e => by
      rw [e, Dr_0] at h2
      omega
    obtain ⟨f1, -⟩ := fg_in (P := P) h1 h0
    have fl := fg_len (P := P) h1 h0
    exact ⟨(cl_lef h1 f1).2, by show Dr P (lef (rs P k j) (fg P (rs P k j))) % 1024 + (j + 1) = _; omega⟩
theorem cwd_get (P : Nat → Nat) : ∀ n i k, i < n → (cwd P n k).getD i 0 = fg P (rs P k i)
  | 0, i, k, h => by omega
  | n + 1, 0, k, _ => rfl
  | n + 1, i + 1, k, h => by
    show (cwd P n (lef k (fg P k))).getD i 0 = _
    rw [cwd_get P n i _ (by omega), rs_succ]
theorem x_gateOf {M : qv_Mem} {P : Nat → Nat} (hP : zPk P) (hR : zRn M P) (hL : zClP M) {k i : Nat} (hk : k < 192) (hi : i < Dr P k % 1024) : f_X2_gateOf qv_TT 63 (nI k) (nI i) M = some (nI ((cw P k).getD i 0)) := by
  have a := Dr_lt hP hk
  unfold f_X2_gateOf f_X2_lengthOf
  rw [zt_cl.2.2.2.2.2.1, zi_ldI hk (by omega), hR.2 k hk, show (1024 : Int32) = nI 1024 from rfl, zi_mod (by omega) (by omega) (by omega), zbo, if_pos (nI_lt hi (by omega)), zjn]
  have key1 := zfor2c (b := b_X2_gateOf_17 63 (nI i) M qv_TT (fun (v2 : Int32) => qv_bo (f_X2_firstGateOf qv_TT 63 v2 M) (fun v4 => some v4))) (o := some (nI ((cw P k).getD i 0))) (fun j => nI (rs P k j)) (fun j => nI j) 0 i (by omega) (fun j r _ hj => ?_) (fun r => ?_) qv_N (qv_N_gt _ (by omega))
  · exact key1
  · obtain ⟨h1, h2⟩ := rs_in (P := P) hk j (by omega)
    have h0 : rs P k j ≠ 0 := fun e => by
      rw [e, Dr_0] at h2
      omega
    unfold b_X2_gateOf_17
    dsimp only
    rw [if_neg (nI_ge hj (by omega)), x_rest hP hR hL h1 h0, zbo, nI_1]
    rfl
  · obtain ⟨h1, h2⟩ := rs_in (P := P) hk i (by omega)
    have h0 : rs P k i ≠ 0 := fun e => by
      rw [e, Dr_0] at h2
      omega
    obtain ⟨f1, -⟩ := fg_in (P := P) h1 h0
    unfold b_X2_gateOf_17
    dsimp only
    rw [if_pos (nI_le (Nat.le_refl _) (by omega)), x_first hP hR hL h1, zbo]
    unfold zsn cw
    rw [if_pos (pgs_lt f1), cwd_get P _ i k hi]
noncomputable def a_cheapest (P : Nat → Nat) (p q : Int32) : Int32 := if zr p 192 then -1 else if -2 ≤ q then (if q = -2 then nI (Dr P p.toNatClampNeg / 1024) else if q = -1 then nI (Dr P p.toNatClampNeg % 1024) else if zr q (Dr P p.toNatClampNeg % 1024) then -2 else nI ((cw P p.toNatClampNeg).getD q.toNatClampNeg 0)) else -1
theorem zr_ge {q : Int32} {n : Nat} (h : zr q n) (h1 : -2 ≤ q) (h2 : q ≠ -2) (h3 : q ≠ -1) : (n : Int) ≤ q.toInt := by
  have d1 : (-2 : Int32).toInt = -2 := by decide
  have d2 : (-1 : Int32).toInt = -1 := by decide
  have := Int32.le_iff_toInt_le.mp h1
  rw [d1] at this
  have x1 : q.toInt ≠ -2 := fun e => h2 (Int32.toInt_inj.mp (by rw [e, d1]))
  have x2 : q.toInt ≠ -1 := fun e => h3 (Int32.toInt_inj.mp (by rw [e, d2]))
  unfold zr at h
  omega
theorem x_cheapest {M : qv_Mem} {P : Nat → Nat} (hk9 : zPk P) (hP : zCP M P) (hL : zCl M) (hS : zRs M) (p q : Int32) : ∃ N, f_X9_cheapest qv_TT 0 p q M = some (a_cheapest P p q, N) ∧ zCl N ∧ zRs N ∧ zfr zSc M N := by
  unfold f_X9_cheapest a_cheapest
  rw [zl192]
  rcases zr_in p 192 with ⟨k, hk, k2, rfl⟩ | h
  · rw [x_below hk (by omega), zbo, if_neg zl1n0, if_neg (zr_n hk k2), zi_cl k2]
    by_cases c1 : -2 ≤ q
    · rw [if_pos c1, if_pos c1, zt_cl.2.2.2.2.2.2.2.2.2, zt_bench, zt_price]
      obtain ⟨N, e1, h1, h2, h3, f1⟩ := x_rankBy hk9 hP hL hS
      rw [e1, zbo]
      have a := Dr_lt hk9 hk
      refine ⟨N, ?_, Or.inr h1, h2.rs hk9 h3, f1⟩
      by_cases c2 : q = -2
      · rw [if_pos c2, if_pos c2]
        unfold f_X2_costOf
        rw [zt_cl.2.2.2.2.2.1, zi_ldI hk (by omega), h2.2 k hk, show (1024 : Int32) = nI 1024 from rfl, zi_div (by omega) (by omega) (by omega), zbo]
      · rw [if_neg c2, if_neg c2]
        by_cases c3 : q = -1
        · rw [if_pos c3, if_pos c3]
          unfold f_X2_lengthOf
          rw [zt_cl.2.2.2.2.2.1, zi_ldI hk (by omega), h2.2 k hk, show (1024 : Int32) = nI 1024 from rfl, zi_mod (by omega) (by omega) (by omega), zbo]
        · rw [if_neg c3, if_neg c3]
          rcases zr_in q (Dr P k % 1024) with ⟨i, hi, i2, rfl⟩ | hq
          · rw [x_gateOf hk9 h2 h1 hk hi, zbo, if_neg (zr_n hi i2), zi_cl i2]
          · rw [if_pos hq]
            have hg := zr_ge hq c1 c2 c3
            unfold f_X2_gateOf f_X2_lengthOf
            rw [zt_cl.2.2.2.2.2.1, zi_ldI hk (by omega), h2.2 k hk, show (1024 : Int32) = nI 1024 from rfl, zi_mod (by omega) (by omega) (by omega), zbo, if_neg (fun z => by
              have := Int32.lt_iff_toInt_lt.mp z
              rw [nI_toInt (by omega)] at this
              omega), zbo]
    · rw [if_neg c1, if_neg c1]
      exact ⟨M, rfl, hL, hS, zfr.rf _ _⟩
  · rw [x_below0 h (by omega), zbo, if_pos rfl, if_pos h]
    exact ⟨M, rfl, hL, hS, zfr.rf _ _⟩
