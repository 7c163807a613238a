/-! A row's gates applied one after another: the reference; value on both sides. -/
def a_ag (G : Nat → Nat) : Nat → Nat → zq_T → zq_T
  | 0, _, A => A
  | n + 1, i, A => a_ag G n (i + 1) (zq_lm A (zq_gt (G i)))
theorem a_ar_ag (l : List Nat) : ∀ n i A, a_ar l n i A = a_ag (fun j => l.getD j 0) n i A
  | 0, _, _ => rfl
  | n + 1, i, A => a_ar_ag l n (i + 1) _
theorem y_vo_lp {s w b : Nat} {pl p5 : Int32} {W : Nat → List Nat} {G : Nat → Nat} (hs : 15 ≤ s) (hs2 : s < 19) (hw : w < 3) (hb : b ≤ 60) (hG : ∀ i, i < (W w).length → (if nI i = pl then p5 else nI ((W w).getD i 0)) = nI (G i)) (hG7 : ∀ i, i < (W w).length → G i < 7) : ∀ (n i f : Nat) (M : qv_Mem) (A : zq_T), i + n = min (W w).length b → n < f → yW M W → zMC M → zS M 107 s A → zq_ok A → A.2 + n ≤ 100 → ∃ M1, qv_lp2 (b_X10_valueOf_10 106 (nI s) (nI w) (nI b) pl p5 qv_TT (fun M2 => some M2)) f (nI i) M = some M1 ∧ zS M1 107 s (a_ag G n i A) ∧ zq_ok (a_ag G n i A) ∧ (a_ag G n i A).2 ≤ A.2 + n ∧ zso M M1 107 (fun x => x = s ∨ x = 19) := by
  intro n
  induction n with
  | zero =>
    intro i f M A hi hf hW hK hA oA eA
    obtain ⟨a1, a2, a3⟩ := hW w hw
    obtain ⟨f, rfl⟩ : ∃ g, f = g + 1 := ⟨f - 1, by omega⟩
    rw [zN2]
    unfold b_X10_valueOf_10
    by_cases c : b ≤ i
    · rw [if_pos (nI_le c (by omega))]
      exact ⟨M, rfl, hA, oA, Nat.le_refl _, zso.rf _ _ _⟩
    · rw [if_neg (nI_ge (by omega) (by omega)), zt_size, zi_ldI hw (by omega), a1, if_pos (nI_le (by omega) (by omega))]
      exact ⟨M, rfl, hA, oA, Nat.le_refl _, zso.rf _ _ _⟩
  | succ n ih =>
    intro i f M A hi hf hW hK hA oA eA
    obtain ⟨a1, a2, a3⟩ := hW w hw
    obtain ⟨f, rfl⟩ : ∃ g, f = g + 1 := ⟨f - 1, by omega⟩
    rw [zN2]
    have ih1 := ih (i + 1) f
    generalize qv_lp2 (b_X10_valueOf_10 106 (nI s) (nI w) (nI b) pl p5 qv_TT (fun M2 => some M2)) f = rr at ih1 ⊢
    unfold b_X10_valueOf_10
    have g7 := hG7 i (by omega)
    have hGi := hG i (by omega)
    rw [if_neg (nI_ge (show i < b by omega) (by omega)), zt_size, zi_ldI hw (by omega), a1, if_neg (nI_ge (show i < (W w).length by omega) (by omega)), zjn, zt_word, zl60, zi_mul, nI_add, zi_ldI (by omega) (by omega), a3 i (by omega)]
    have eg := zgt_e g7
    have e3 := zlm_e A (zq_gt (G i))
    obtain ⟨M2, e2, h2, k2⟩ := y_product zt_tab (c := s) (a := s) (b := 4 + G i) hs2 hs2 (by omega) hA (hK.1 _ g7) (by omega) (by omega) (zb_le (zb_pm (oA.bd 50 (by omega)) (zgt_bd g7)) (by decide))
    have key : (if nI i = pl then (fun (v8 : Int32) => qv_bo (f_X10_product qv_TT 106 (nI s) (nI s) (4 + v8) M) (fun M10 => rr (nI i + 1) M10)) p5 else (fun (v8 : Int32) => qv_bo (f_X10_product qv_TT 106 (nI s) (nI s) (4 + v8) M) (fun M10 => rr (nI i + 1) M10)) (nI ((W w).getD i 0))) = rr (nI (i + 1)) M2 := by
      by_cases c : nI i = pl
      · rw [if_pos c] at hGi
        rw [if_pos c]
        dsimp only
        rw [hGi, zl_4a, e2, zbo, nI_1]
      · rw [if_neg c] at hGi
        rw [if_neg c]
        dsimp only
        rw [hGi, zl_4a, e2, zbo, nI_1]
    rw [key]
    have hW2 : yW M2 W := by
      unfold yW
      rw [k2.1]
      exact hW
    obtain ⟨M3, e4, h4, o4, e5, k4⟩ := ih1 M2 _ (by omega) (by omega) hW2 (hK.kept k2 (fun x _ _ => by omega)) h2 (oA.mul (zq_ok.gt1 g7)) (by omega)
    refine ⟨M3, e4, h4, o4, ?_, k2.tr k4 (fun _ q => q) (fun _ q => q)⟩
    show (a_ag G n (i + 1) (zq_lm A (zq_gt (G i)))).2 ≤ A.2 + (n + 1)
    omega
theorem y_valueOf {s w b : Nat} {pl p5 : Int32} {W : Nat → List Nat} {G : Nat → Nat} (hs : 15 ≤ s) (hs2 : s < 19) (hw : w < 3) (hb : b ≤ 60) (hG : ∀ i, i < (W w).length → (if nI i = pl then p5 else nI ((W w).getD i 0)) = nI (G i)) (hG7 : ∀ i, i < (W w).length → G i < 7) {M : qv_Mem} (hW : yW M W) (hK : zMC M) : ∃ M1, f_X10_valueOf qv_TT 106 (nI s) (nI w) (nI b) pl p5 M = some M1 ∧ zS M1 107 s (a_ag G (min (W w).length b) 0 zq_one) ∧ zq_ok (a_ag G (min (W w).length b) 0 zq_one) ∧ (a_ag G (min (W w).length b) 0 zq_one).2 ≤ min (W w).length b ∧ zso M M1 107 (fun x => x = s ∨ x = 19) := by
  unfold f_X10_valueOf
  obtain ⟨M1, e1, h1, k1⟩ := y_copies1 zt_tab M (a := 14) (b := s) (by omega) (by omega) hK.2.2.2.2
  rw [zl14, e1, zbo, zjn, zi_0]
  have hW2 : yW M1 W := by
    unfold yW
    rw [k1.1]
    exact hW
  have e0 : zq_one.2 = 0 := rfl
  obtain ⟨M3, e4, h4, o4, e5, k4⟩ := y_vo_lp hs hs2 hw hb hG hG7 (min (W w).length b) 0 qv_N M1 zq_one (by omega) (qv_N_gt _ (by omega)) hW2 (hK.kept k1 (fun x _ _ => by omega)) h1 zq_ok.one (by omega)
  exact ⟨M3, e4, h4, o4, by omega, k1.tr k4 (fun _ q => Or.inl q) (fun _ q => q)⟩
