/-! Cheapest words: the reference's costs. -/
def K2 : Nat := 1048576
def w2 (P : Nat → Nat) : Nat → Nat := fun g => P g * 1048576 + 1
theorem w2_K (P : Nat → Nat) : w2 P = wK 1048576 P := rfl
def rkY (M : qv_Mem) (r : Nat → Nat) : Prop := ∀ k, k < 192 → M.1 120 k = nI (r k / 1048576) ∧ M.1 121 k = nI (r k % 1048576)
def rbY (r : Nat → Nat) (T : Nat) : Prop := ∀ k, r k ≤ 1048576000000 ∧ r k % 1048576 ≤ T
def zr20 (M N : qv_Mem) : Prop := N.2 = M.2 ∧ ∀ a, a ≠ 120 → a ≠ 121 → N.1 a = M.1 a
theorem zr20.rf (M : qv_Mem) : zr20 M M := ⟨rfl, fun _ _ _ => rfl⟩
theorem zr20.tr {M N Q : qv_Mem} (h : zr20 M N) (k : zr20 N Q) : zr20 M Q := ⟨k.1.trans h.1, fun a h1 h2 => (k.2 a h1 h2).trans (h.2 a h1 h2)⟩
theorem zr20_u {M : qv_Mem} {p j : Nat} {v : Int32} (h : p = 120 ∨ p = 121) : zr20 M (qv_upI M p j v) := ⟨rfl, fun a h1 h2 => zup_ne (by omega)⟩
def pn (g : Nat) : Nat := if g = 0 then 0 else if g ≤ 2 then 1 else if g ≤ 5 then g - 1 else 5
theorem pn_in : ∀ g, g < 7 → g ∈ pgs → pgs.getD (pn g) 0 = g ∧ pn (g + 1) = pn g + 1 ∧ pn g < 5 := by decide +kernel
theorem pn_out : ∀ g, g < 7 → g ∉ pgs → pn (g + 1) = pn g := by decide +kernel
theorem pn_7 : pn 7 = 5 := by decide
def yBL (M : qv_Mem) : Prop := ∀ g ∈ pgs, ∀ k, k < 192 → M.1 118 (7 * k + g) = nI (beh k g)
theorem rlg_stop {P : Nat → Nat} {s : Bool × (Nat → Nat)} {k i : Nat} {T : Nat} (hb : rbY (rlg (w2 P) s k i).2 T) (h : 1048576000000 ≤ (rlg (w2 P) s k i).2 k) : ∀ d, rlg (w2 P) s k (i + d) = rlg (w2 P) s k i
  | 0 => rfl
  | d + 1 => by
    show rl1 (w2 P) (rlg (w2 P) s k (i + d)) k (pgs.getD (i + d) 0) = _
    rw [rlg_stop hb h d]
    unfold rl1
    have a := (hb (beh k (pgs.getD (i + d) 0))).1
    rw [if_neg (by omega)]
theorem pn_le {g : Nat} (h : g ≤ 7) : pn g ≤ 5 := by
  unfold pn
  split
  · omega
  · split
    · omega
    · split <;> omega
theorem y_c59 {M : qv_Mem} {P : Nat → Nat} (hk9 : zPk P) (hP : yP M P) (hB : yBL M) {k : Nat} (hk : k < 192) (kk : Int32 → qv_Mem → Option qv_Mem) {s : Bool × (Nat → Nat)} {T : Nat} (hT : T < 500000) : ∀ (n g f : Nat) (N : qv_Mem), g + n = 7 → n < f → rkY N (rlg (w2 P) s k (pn g)).2 → rbY (rlg (w2 P) s k (pn g)).2 (T + g) → zr20 M N → ∃ N1, qv_lp3 (b_X10_costs_59 106 qv_TT (nI k) kk) f (y_b2i (rlg (w2 P) s k (pn g)).1) (nI g) N = kk (y_b2i (rlg (w2 P) s k 5).1) N1 ∧ rkY N1 (rlg (w2 P) s k 5).2 ∧ rbY (rlg (w2 P) s k 5).2 (T + 7) ∧ zr20 M N1 := by
  intro n
  induction n with
  | zero =>
    intro g f N hg hf hN hb hz
    obtain ⟨f, rfl⟩ : ∃ g, f = g + 1 := ⟨f - 1, by omega⟩
    rw [show g = 7 by omega] at hN hb ⊢
    rw [pn_7] at hN hb ⊢
    show ∃ N1, b_X10_costs_59 106 qv_TT (nI k) kk (qv_lp3 (b_X10_costs_59 106 qv_TT (nI k) kk) f) _ (nI 7) N = _ ∧ _
    unfold b_X10_costs_59
    rw [zl7, if_pos (nI_le (Nat.le_refl _) (by omega))]
    exact ⟨N, rfl, hN, hb, hz⟩
  | succ n ih =>
    intro g f N hg hf hN hb hz
    obtain ⟨f, rfl⟩ : ∃ g, f = g + 1 := ⟨f - 1, by omega⟩
    show ∃ N1, b_X10_costs_59 106 qv_TT (nI k) kk (qv_lp3 (b_X10_costs_59 106 qv_TT (nI k) kk) f) _ (nI g) N = _ ∧ _
    have ih1 := ih (g + 1) f
    generalize qv_lp3 (b_X10_costs_59 106 qv_TT (nI k) kk) f = rr at ih1 ⊢
    unfold b_X10_costs_59
    have bk := hb k
    rw [zl7, if_neg (zi_nle (a := 7) (b := g) (by omega) (by omega)), zt_ycl.2.2.2.1, zi_ldI hk (by omega), (hN k hk).1, show (1000000 : Int32) = nI 1000000 from rfl]
    by_cases c : 1000000 ≤ (rlg (w2 P) s k (pn g)).2 k / 1048576
    · rw [if_pos (nI_le c (by omega))]
      have pl := pn_le (show g ≤ 7 by omega)
      have e := rlg_stop hb (by omega) (5 - pn g)
      rw [show pn g + (5 - pn g) = 5 by omega] at e
      rw [e]
      exact ⟨N, rfl, hN, fun x => ⟨(hb x).1, by have := (hb x).2; omega⟩, hz⟩
    · rw [if_neg (nI_ge (by omega) (by omega))]
      by_cases gp : g ∈ pgs
      · obtain ⟨p1, p2, p3⟩ := pn_in g (by omega) gp
        have g7 := pgs_lt gp
        have p9 := hk9 g g7
        have bl := (cl_beh hk gp).2
        have bb := hb (beh k g)
        have eS : rlg (w2 P) s k (pn (g + 1)) = rl1 (w2 P) (rlg (w2 P) s k (pn g)) k g := by
          rw [p2]
          show rl1 (w2 P) (rlg (w2 P) s k (pn g)) k (pgs.getD (pn g) 0) = _
          rw [p1]
        rw [eS] at ih1
        generalize rlg (w2 P) s k (pn g) = S at hN hb bk c bb ih1 eS ⊢
        have hBN : N.1 118 (7 * k + g) = nI (beh k g) := by rw [hz.2 118 (by omega) (by omega)]; exact hB g gp k hk
        have hPN : N.1 110 g = nI (P g) := by rw [hz.2 110 (by omega) (by omega)]; exact hP g g7
        rw [y_isCl gp, zbo, zjn, if_neg zl1n0, zt_ycl.2.1, zi_mul, nI_add, zi_ldI (by omega) (by omega), hBN, zi_ldI hk (by omega), (hN k hk).1, zt_yprice, zi_ldI g7 (by omega), hPN, zi_ldI bl (by omega), (hN _ bl).1, zjn, nI_add, zt_ycl.2.2.2.2, zi_ldI hk (by omega), (hN k hk).2, zi_ldI bl (by omega), (hN _ bl).1, zi_ldI bl (by omega), (hN _ bl).2, nI_1, nI_1]
        by_cases r1 : S.2 k + w2 P g < S.2 (beh k g)
        · have e1 : rl1 (w2 P) S k g = (true, fun i => if i = beh k g then S.2 k + w2 P g else S.2 i) := by
            unfold rl1
            rw [if_pos r1]
          rw [e1] at ih1
          have q1 : (S.2 k + w2 P g) / 1048576 = S.2 k / 1048576 + P g := by unfold w2; omega
          have q2 : (S.2 k + w2 P g) % 1048576 = S.2 k % 1048576 + 1 := by unfold w2; omega
          have hN1 : rkY (qv_upI (qv_upI N 120 (beh k g) (nI (S.2 k / 1048576 + P g))) 121 (beh k g) (nI (S.2 k % 1048576 + 1))) (fun i => if i = beh k g then S.2 k + w2 P g else S.2 i) := by
            intro x hx
            rw [zup_ne (show (120 : Nat) ≠ 121 by omega), zup_at, zup_at, zup_ne (show (121 : Nat) ≠ 120 by omega)]
            dsimp only
            by_cases e : x = beh k g
            · rw [if_pos e, if_pos e, if_pos e, q1, q2]
              exact ⟨rfl, rfl⟩
            · rw [if_neg e, if_neg e, if_neg e]
              exact hN x hx
          have hb1 : rbY (fun i => if i = beh k g then S.2 k + w2 P g else S.2 i) (T + (g + 1)) := by
            intro x
            dsimp only
            split
            · refine ⟨by omega, by rw [q2]; omega⟩
            · have := hb x
              exact ⟨this.1, by omega⟩
          obtain ⟨N1, e2, d1, d2, d3⟩ := ih1 _ (by omega) (by omega) hN1 hb1 (hz.tr ((zr20_u (Or.inl rfl)).tr (zr20_u (Or.inr rfl))))
          refine ⟨N1, ?_, d1, d2, d3⟩
          rw [← e2]
          have st : qv_stI 192 120 (nI (beh k g)) (nI (S.2 k / 1048576 + P g)) N (fun M33 => qv_ldI 192 121 (nI k) M33 (fun v34 => qv_stI 192 121 (nI (beh k g)) (v34 + 1) M33 (fun M35 => rr 1 (nI (g + 1)) M35))) = rr 1 (nI (g + 1)) (qv_upI (qv_upI N 120 (beh k g) (nI (S.2 k / 1048576 + P g))) 121 (beh k g) (nI (S.2 k % 1048576 + 1))) := by
            rw [zi_stI bl (by omega), zi_ldI hk (by omega), zup_ne (show (121 : Nat) ≠ 120 by omega), (hN k hk).2, nI_1, zi_stI bl (by omega)]
          by_cases c1 : S.2 k / 1048576 + P g < S.2 (beh k g) / 1048576
          · rw [if_pos (nI_lt c1 (by omega))]
            exact st
          · have c2 : S.2 k / 1048576 + P g = S.2 (beh k g) / 1048576 := by unfold w2 at r1; omega
            have c3 : S.2 k % 1048576 + 1 < S.2 (beh k g) % 1048576 := by unfold w2 at r1; omega
            rw [if_neg (nI_nlt (by omega) (by omega)), if_pos (by rw [c2]), if_neg (zi_nle c3 (by omega))]
            exact st
        · have e1 : rl1 (w2 P) S k g = S := by
            unfold rl1
            rw [if_neg r1]
          rw [e1] at ih1
          obtain ⟨N1, e2, d1, d2, d3⟩ := ih1 N (by omega) (by omega) hN (fun x => ⟨(hb x).1, by have := (hb x).2; omega⟩) hz
          refine ⟨N1, ?_, d1, d2, d3⟩
          rw [← e2]
          have c1 : ¬ S.2 k / 1048576 + P g < S.2 (beh k g) / 1048576 := by unfold w2 at r1; omega
          rw [if_neg (nI_nlt (by omega) (by omega))]
          by_cases c2 : S.2 k / 1048576 + P g = S.2 (beh k g) / 1048576
          · have c3 : S.2 (beh k g) % 1048576 ≤ S.2 k % 1048576 + 1 := by unfold w2 at r1; omega
            rw [if_pos (by rw [c2]), if_pos (nI_le c3 (by omega))]
          · rw [if_neg (fun z => c2 ((nI_eq (by omega) (by omega)).mp z))]
      · have g16 : g = 1 ∨ g = 6 := by
          by_cases z1 : g = 1
          · exact Or.inl z1
          · by_cases z6 : g = 6
            · exact Or.inr z6
            · exact absurd (pgs_of (by omega) z1 z6) gp
        rw [y_isCl0 (show zr (nI g) 7 ∨ nI g = 1 ∨ nI g = 6 from Or.inr (g16.elim (fun e => Or.inl (by rw [e]; rfl)) (fun e => Or.inr (by rw [e]; rfl)))), zbo, zjn, if_pos rfl, nI_1]
        have p := pn_out g (by omega) gp
        rw [p] at ih1
        exact ih1 N (by omega) (by omega) hN (fun x => ⟨(hb x).1, by have := (hb x).2; omega⟩) hz
