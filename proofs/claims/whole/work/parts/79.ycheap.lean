/-! cheapest: the reference. -/
theorem rlp_succ (wf : Nat → Nat) (s : Bool × (Nat → Nat)) (k : Nat) : rlp wf s (k + 1) = rlg wf (rlp wf s k) k 5 := rfl
theorem rlg_0 (wf : Nat → Nat) (s : Bool × (Nat → Nat)) (k : Nat) : rlg wf s k (pn 0) = s := rfl
theorem y_c49 {M : qv_Mem} {P : Nat → Nat} (hk9 : zPk P) (hP : yP M P) (hB : yBL M) (h14 : M.2.2 106 14 = nI 192) {r : Nat → Nat} {T : Nat} (hT : T < 400000) (h0 : rkY M r) (hb : rbY r T) (kk : Int32 → qv_Mem → Option qv_Mem) : ∃ N, qv_lp3 (b_X10_costs_49 106 qv_TT kk) qv_N 0 0 M = kk (y_b2i (rlp (w2 P) (false, r) 192).1) N ∧ rkY N (rlp (w2 P) (false, r) 192).2 ∧ rbY (rlp (w2 P) (false, r) 192).2 (T + 1344) ∧ zr20 M N := by
  rw [zi_0]
  have key1 := zinv3 (b := b_X10_costs_49 106 qv_TT kk) (k := kk) (fun k v N => v = y_b2i (rlp (w2 P) (false, r) k).1 ∧ rkY N (rlp (w2 P) (false, r) k).2 ∧ rbY (rlp (w2 P) (false, r) k).2 (T + 7 * k) ∧ zr20 M N) 0 192 (by omega) (fun k v N rr _ hk hN => ?_) (fun v N rr hN => ?_) qv_N (qv_N_gt _ (by omega)) (nI 0) M ⟨rfl, h0, by rw [Nat.mul_zero, Nat.add_zero]; exact hb, zr20.rf _⟩
  · obtain ⟨v, N, ⟨a1, a2, a3, a4⟩, e⟩ := key1
    rw [a1] at e
    have e7 : T + 7 * 192 = T + 1344 := by omega
    rw [e7] at a3
    exact ⟨N, e, a2, a3, a4⟩
  · obtain ⟨n1, n2, n3, n4⟩ := hN
    unfold b_X10_costs_49
    have s14 : N.2.2 106 14 = nI 192 := by rw [n4.1]; exact h14
    rw [zgS, s14, if_neg (zi_nle (a := 192) (b := k) (by omega) (by omega)), zjn, n1, zi_0]
    have hPN : yP N P := fun g hg => by rw [n4.2 110 (by omega) (by omega)]; exact hP g hg
    have hBN : yBL N := fun g hg k hk => by rw [n4.2 118 (by omega) (by omega)]; exact hB g hg k hk
    rw [rlp_succ]
    generalize rlp (w2 P) (false, r) k = S at n2 n3 ⊢
    have n2' : rkY N (rlg (w2 P) S k (pn 0)).2 := by rw [rlg_0]; exact n2
    have n3' : rbY (rlg (w2 P) S k (pn 0)).2 (T + 7 * k + 0) := by rw [rlg_0, Nat.add_zero]; exact n3
    obtain ⟨N1, e1, c1, c2, c3⟩ := y_c59 hk9 hPN hBN hk (fun (v16 : Int32) (M17 : qv_Mem) => rr v16 (nI k + 1) M17) (s := S) (T := T + 7 * k) (by omega) 7 0 qv_N N (by omega) (qv_N_gt _ (by omega)) n2' n3' (zr20.rf _)
    rw [rlg_0] at e1
    rw [e1, nI_1]
    generalize rlg (w2 P) S k 5 = Q at c1 c2 ⊢
    refine ⟨_, N1, ⟨rfl, c1, ?_, n4.tr c3⟩, rfl⟩
    have e7 : T + 7 * k + 7 = T + 7 * (k + 1) := by omega
    rw [e7] at c2
    exact c2
  · unfold b_X10_costs_49
    have s14 : N.2.2 106 14 = nI 192 := by rw [hN.2.2.2.1]; exact h14
    rw [zgS, s14, if_pos (nI_le (Nat.le_refl _) (by omega))]
def yCo (M : qv_Mem) (P : Nat → Nat) : Prop := ∀ k, k < 192 → M.1 120 k = nI (Dr P k / 1024) ∧ M.1 121 k = nI (Dr P k % 1024)
theorem rkY_fin {M : qv_Mem} {P : Nat → Nat} {r : Nat → Nat} (h : rkY M r) (hF : rlF (w2 P) r) : yCo M P := by
  intro k hk
  obtain ⟨c, l, h1, h2, h3⟩ := Dd_lex (K := 1024) (K2 := 1048576) (by omega) (by omega) P hk
  have a := h k hk
  have b := hF k hk
  rw [w2_K, h3] at b
  rw [b] at a
  have d1 : Dr P k / 1024 = (c * 1048576 + l) / 1048576 := by unfold Dr; omega
  have d2 : Dr P k % 1024 = (c * 1048576 + l) % 1048576 := by unfold Dr; omega
  rw [d1, d2]
  exact a
theorem y_c41 {P : Nat → Nat} (hk9 : zPk P) : ∀ (n p f : Nat) (b : Bool) (M : qv_Mem) (r : Nat → Nat), p + n = 193 → n + 1 < f → yP M P → yBL M → M.2.2 106 14 = nI 192 → rkY M r → rbY r (1344 * p) → rlJ (w2 P) p r → (b = false → rlF (w2 P) r) → (193 ≤ p → b = false) → ∃ N, qv_lp2 (b_X10_costs_41 106 qv_TT (fun M3 => some M3)) f (y_b2i b) M = some N ∧ yCo N P ∧ zr20 M N := by
  intro n
  induction n with
  | zero =>
    intro p f b M r hp hf hP hB h14 h0 hb hJ hF h193
    obtain ⟨f, rfl⟩ : ∃ g, f = g + 1 := ⟨f - 1, by omega⟩
    have eb := h193 (by omega)
    rw [eb, zN2]
    unfold b_X10_costs_41
    rw [if_pos (show y_b2i false = 0 by decide)]
    exact ⟨M, rfl, rkY_fin h0 (hF eb), zr20.rf _⟩
  | succ n ih =>
    intro p f b M r hp hf hP hB h14 h0 hb hJ hF h193
    obtain ⟨f, rfl⟩ : ∃ g, f = g + 1 := ⟨f - 1, by omega⟩
    rw [zN2]
    have ih1 := ih (p + 1) f
    generalize qv_lp2 (b_X10_costs_41 106 qv_TT (fun M3 => some M3)) f = rr at ih1 ⊢
    unfold b_X10_costs_41
    cases b with
    | false =>
      rw [if_pos (show y_b2i false = 0 by decide)]
      exact ⟨M, rfl, rkY_fin h0 (hF rfl), zr20.rf _⟩
    | true =>
      rw [if_neg (show ¬ y_b2i true = 0 by decide), zjn]
      obtain ⟨N, e1, c1, c2, c3⟩ := y_c49 hk9 hP hB h14 (by omega) h0 hb (fun (v8 : Int32) (M9 : qv_Mem) => rr v8 M9)
      obtain ⟨j1, j2, j3⟩ := rlJ_pass hJ
      rw [e1]
      obtain ⟨N2, e2, d1, d2⟩ := ih1 (rlp (w2 P) (false, r) 192).1 N (rlp (w2 P) (false, r) 192).2 (by omega) (by omega) (fun g hg => by rw [c3.2 110 (by omega) (by omega)]; exact hP g hg) (fun g hg k hk => by rw [c3.2 118 (by omega) (by omega)]; exact hB g hg k hk) (by rw [c3.1]; exact h14) c1 (fun x => ⟨(c2 x).1, Nat.le_trans (c2 x).2 (by omega)⟩) j1 j2 (fun hp2 => by
        have hf : rlF (w2 P) r := rlJ_fin (wK_pos 1048576 P) (p := p) (r := r) hJ (by omega)
        rw [rlF_pass hf])
      exact ⟨N2, e2, d1, c3.tr d2⟩
theorem y_c2 {M : qv_Mem} (h14 : M.2.2 106 14 = nI 192) (k : qv_Mem → Option qv_Mem) : ∃ N, qv_lp2 (b_X10_costs_2 106 qv_TT k) qv_N 0 M = k N ∧ rkY N (fun k => if k = 0 then 0 else 1048576000000) ∧ zr20 M N := by
  rw [zi_0]
  have key1 := zinv2 (b := b_X10_costs_2 106 qv_TT k) (k := k) (fun i N => (∀ j, j < i → N.1 120 j = nI (if j = 0 then 0 else 1000000) ∧ N.1 121 j = nI 0) ∧ zr20 M N) 0 192 (by omega) (fun i N r _ hi hN => ?_) (fun N r hN => ?_) qv_N (qv_N_gt _ (by omega)) M ⟨fun j hj => by omega, zr20.rf _⟩
  · obtain ⟨N, ⟨a1, a2⟩, e⟩ := key1
    refine ⟨N, e, fun j hj => ?_, a2⟩
    have := a1 j hj
    rw [this.1, this.2]
    dsimp only
    split
    · exact ⟨rfl, rfl⟩
    · exact ⟨rfl, rfl⟩
  · obtain ⟨n1, n2⟩ := hN
    unfold b_X10_costs_2
    have s14 : N.2.2 106 14 = nI 192 := by rw [n2.1]; exact h14
    have st : ∀ v : Nat, (v = if i = 0 then 0 else 1000000) → qv_stI 192 120 (nI i) (nI v) N (fun M45 => qv_stI 192 121 (nI i) (nI 0) M45 (fun M46 => r (nI i + 1) M46)) = r (nI (i + 1)) (qv_upI (qv_upI N 120 i (nI v)) 121 i (nI 0)) := fun v _ => by
      rw [zi_stI hi (by omega), zi_stI hi (by omega), nI_1]
    have res : ∀ v : Nat, (v = if i = 0 then 0 else 1000000) → (∀ j, j < i + 1 → (qv_upI (qv_upI N 120 i (nI v)) 121 i (nI 0)).1 120 j = nI (if j = 0 then 0 else 1000000) ∧ (qv_upI (qv_upI N 120 i (nI v)) 121 i (nI 0)).1 121 j = nI 0) := fun v hv j hj => by
      rw [zup_ne (show (120 : Nat) ≠ 121 by omega), zup_at, zup_at, zup_ne (show (121 : Nat) ≠ 120 by omega)]
      by_cases e : j = i
      · rw [if_pos e, if_pos e, hv, e]
        exact ⟨rfl, rfl⟩
      · rw [if_neg e, if_neg e]
        exact n1 j (by omega)
    rw [zgS, s14, if_neg (zi_nle (a := 192) (b := i) (by omega) (by omega)), zjn, zt_ycl.2.2.2.1, zt_ycl.2.2.2.2, zi_0]
    by_cases c : i = 0
    · rw [if_pos (by rw [c])]
      exact ⟨_, ⟨res 0 (by rw [if_pos c]), n2.tr ((zr20_u (Or.inl rfl)).tr (zr20_u (Or.inr rfl)))⟩, st 0 (by rw [if_pos c])⟩
    · rw [if_neg (fun z => c ((nI_eq (by omega) (by omega)).mp z))]
      exact ⟨_, ⟨res 1000000 (by rw [if_neg c]), n2.tr ((zr20_u (Or.inl rfl)).tr (zr20_u (Or.inr rfl)))⟩, st 1000000 (by rw [if_neg c])⟩
  · unfold b_X10_costs_2
    have s14 : N.2.2 106 14 = nI 192 := by rw [hN.2.1]; exact h14
    rw [zgS, s14, if_pos (nI_le (Nat.le_refl _) (by omega))]
theorem D2_lt {P : Nat → Nat} (hP : zPk P) {k : Nat} (hk : k < 192) : Dd (w2 P) k ≤ 1048576000000 := by
  obtain ⟨c, l, h1, h2, h3⟩ := Dd_lex (K := 1024) (K2 := 1048576) (by omega) (by omega) P hk
  have a := Dr_lt hP hk
  unfold Dr at a
  rw [w2_K, h3]
  omega
theorem y_costs {M : qv_Mem} {P : Nat → Nat} (hk9 : zPk P) (hP : yP M P) (hL : yCl M) : ∃ N, f_X10_costs qv_TT 106 M = some N ∧ yCo N P ∧ zr20 M N := by
  unfold f_X10_costs
  rw [zjn]
  obtain ⟨N, e1, c1, c2⟩ := y_c2 hL.1 (fun (M1 : qv_Mem) => qv_jn (fun (M3 : qv_Mem) => some M3) (fun k4 => qv_lp2 (b_X10_costs_41 106 qv_TT k4) qv_N 1 M1))
  rw [e1, zjn]
  obtain ⟨N2, e2, d1, d2⟩ := y_c41 hk9 193 0 qv_N true N (fun k => if k = 0 then 0 else 1048576000000) (by omega) (qv_N_gt _ (by omega)) (fun g hg => by rw [c2.2 110 (by omega) (by omega)]; exact hP g hg) (fun g hg k hk => by rw [c2.2 118 (by omega) (by omega)]; exact hL.2.2.1 g hg k hk) (by rw [c2.1]; exact hL.1) c1 (fun x => by dsimp only; split <;> omega) (rlJ_0 (fun x hx => by
      have a := D2_lt hk9 hx
      split
      · rename_i e
        rw [e, Dd_0]
        omega
      · exact a) rfl) (fun q => (by cases q)) (fun q => by omega)
  exact ⟨N2, e2, d1, c2.tr d2⟩
theorem y_cb17 {M : qv_Mem} {P : Nat → Nat} (hk9 : zPk P) (hP : yP M P) (hL : yCl M) (hC : yCo M P) {k : Nat} (hk : k < 192) (h0 : k ≠ 0) (kk : Int32 → Option qv_Mem) : ∀ (n g f : Nat), g + n = 7 → n < f → fgL P k (pgs.drop (pn g)) = fg P k → qv_lp1 (b_X10_cheapestBehind_17 106 qv_TT (nI k) M kk) f (nI g) = kk (nI (fg P k)) := by
  have fi := (fg_in (P := P) hk h0).1
  intro n
  induction n with
  | zero =>
    intro g f hg hf hfg
    exfalso
    rw [show g = 7 by omega, pn_7] at hfg
    have e : fgL P k (pgs.drop 5) = 9 := rfl
    rw [e] at hfg
    have := pgs_lt fi
    omega
  | succ n ih =>
    intro g f hg hf hfg
    obtain ⟨f, rfl⟩ : ∃ g, f = g + 1 := ⟨f - 1, by omega⟩
    rw [zN1]
    have ih1 := ih (g + 1) f (by omega) (by omega)
    generalize qv_lp1 (b_X10_cheapestBehind_17 106 qv_TT (nI k) M kk) f = rr at ih1 ⊢
    unfold b_X10_cheapestBehind_17
    by_cases gp : g ∈ pgs
    · obtain ⟨p1, p2, p3⟩ := pn_in g (by omega) gp
      have g7 := pgs_lt gp
      have p9 := hk9 g g7
      have ll := (cl_lef hk gp).2
      have a1 := Dr_lt hk9 hk
      have a2 := Dr_lt hk9 ll
      have b1 := Dr_cl P hk
      have b2 := Dr_cl P ll
      rw [pgs_drop _ p3, p1] at hfg
      rw [y_isCl gp, zbo, zjn, if_neg zl1n0, zt_ycl.2.2.1, zl7, zi_mul, nI_add, zi_ldI (by omega) (by omega), hL.2.2.2 g gp k hk, zt_ycl.2.2.2.1, zi_ldI ll (by omega), (hC _ ll).1, zt_yprice, zi_ldI g7 (by omega), hP g g7, zi_ldI hk (by omega), (hC k hk).1, nI_add, zt_ycl.2.2.2.2, zi_ldI (by omega) (by omega), hL.2.2.2 g gp k hk, zi_ldI ll (by omega), (hC _ ll).2, zi_ldI hk (by omega), (hC k hk).2, nI_1, nI_1]
      by_cases c : Dr P (lef k g) + wK 1024 P g = Dr P k
      · have c1 : Dr P (lef k g) / 1024 + P g = Dr P k / 1024 := by unfold wK at c; omega
        have c2 : Dr P (lef k g) % 1024 + 1 = Dr P k % 1024 := by unfold wK at c; omega
        rw [if_pos (by rw [c1]), if_pos (by rw [c2])]
        unfold fgL at hfg
        rw [if_pos c] at hfg
        rw [← hfg]
      · unfold fgL at hfg
        rw [if_neg c] at hfg
        rw [p2] at ih1
        have hfg2 : fgL P k (pgs.drop (pn g + 1)) = fg P k := by
          rw [← hfg]
        have r1 := ih1 hfg2
        by_cases c1 : Dr P (lef k g) / 1024 + P g = Dr P k / 1024
        · have c2 : ¬ Dr P (lef k g) % 1024 + 1 = Dr P k % 1024 := fun z => c (by unfold wK; omega)
          rw [if_pos (by rw [c1]), if_neg (fun z => c2 ((nI_eq (by omega) (by omega)).mp z))]
          exact r1
        · rw [if_neg (fun z => c1 ((nI_eq (by omega) (by omega)).mp z))]
          exact r1
    · have g16 : g = 1 ∨ g = 6 := by
        by_cases z1 : g = 1
        · exact Or.inl z1
        · by_cases z6 : g = 6
          · exact Or.inr z6
          · exact absurd (pgs_of (by omega) z1 z6) gp
      rw [y_isCl0 (show zr (nI g) 7 ∨ nI g = 1 ∨ nI g = 6 from Or.inr (g16.elim (fun e => Or.inl (by rw [e]; rfl)) (fun e => Or.inr (by rw [e]; rfl)))), zbo, zjn, if_pos rfl, nI_1]
      rw [pn_out g (by omega) gp] at ih1
      exact ih1 hfg
theorem y_cb6 {P : Nat → Nat} (hk9 : zPk P) : ∀ (n k f : Nat) (M : qv_Mem) (l : List Nat), n = Dr P k % 1024 → k < 192 → n < f → yP M P → yCl M → yCo M P → yR M l → l.length + n ≤ 590 → ∃ N, qv_lp2 (b_X10_cheapestBehind_6 106 qv_TT (fun M2 => some M2)) f (nI k) M = some N ∧ yR N (l ++ cwd P n k) ∧ yow M N := by
  intro n
  induction n with
  | zero =>
    intro k f M l hn hk hf hP hL hC hR hl
    obtain ⟨f, rfl⟩ : ∃ g, f = g + 1 := ⟨f - 1, by omega⟩
    rw [zN2]
    unfold b_X10_cheapestBehind_6
    rw [zt_ycl.2.2.2.2, zi_ldI hk (by omega), (hC k hk).2, ← hn, if_pos (by decide)]
    refine ⟨M, rfl, ?_, yow.rf _⟩
    rw [show l ++ cwd P 0 k = l by simp [cwd]]
    exact hR
  | succ n ih =>
    intro k f M l hn hk hf hP hL hC hR hl
    obtain ⟨f, rfl⟩ : ∃ g, f = g + 1 := ⟨f - 1, by omega⟩
    rw [zN2]
    have ih1 := ih (lef k (fg P k)) f
    generalize qv_lp2 (b_X10_cheapestBehind_6 106 qv_TT (fun M2 => some M2)) f = rr at ih1 ⊢
    have h0 : k ≠ 0 := fun e => by
      rw [e, Dr_0] at hn
      omega
    obtain ⟨f1, f2⟩ := fg_in (P := P) hk h0
    have fl := fg_len (P := P) hk h0
    have g7 := pgs_lt f1
    have ll := (cl_lef hk f1).2
    have b1 := Dr_cl P hk
    unfold b_X10_cheapestBehind_6
    rw [zt_ycl.2.2.2.2, zi_ldI hk (by omega), (hC k hk).2, ← hn, if_neg (show ¬ nI (n + 1) ≤ 0 from zi_nle (a := n + 1) (b := 0) (by omega) (by omega)), zjn, zi_0, y_cb17 hk9 hP hL hC hk h0 _ 7 0 qv_N (by omega) (qv_N_gt _ (by omega)) rfl, zgS, hR.1, zt_row, zi_stI (by omega) (by omega), zgS, zpS]
    have e18 : (qv_upI M 122 l.length (nI (fg P k))).2.2 106 18 = nI l.length := hR.1
    rw [e18, nI_1, zt_ycl.2.2.1, zl7, zi_mul, nI_add, zi_ldI (by omega) (by omega)]
    have o : yow M (qv_upS (qv_upI M 122 l.length (nI (fg P k))) 106 18 (nI (l.length + 1))) := (yow_u M _ _).tr (yow_S _ _)
    generalize hN : qv_upS (qv_upI M 122 l.length (nI (fg P k))) 106 18 (nI (l.length + 1)) = N at o ⊢
    have hR1 : yR N (l ++ [fg P k]) := by rw [← hN]; exact yR_snoc hR (by omega) _
    have hPN : yP N P := fun g hg => by rw [o.2.1 110 (by omega)]; exact hP g hg
    have hLN : yCl N := by
      refine ⟨by rw [o.2.2 106 14 (by omega)]; exact hL.1, fun i hi => ?_, fun g hg i hi => by rw [o.2.1 118 (by omega)]; exact hL.2.2.1 g hg i hi, fun g hg i hi => by rw [o.2.1 119 (by omega)]; exact hL.2.2.2 g hg i hi⟩
      have := hL.2.1 i hi
      unfold zS at this ⊢
      rw [o.1]
      exact this
    have hCN : yCo N P := fun i hi => by rw [o.2.1 120 (by omega), o.2.1 121 (by omega)]; exact hC i hi
    rw [hLN.2.2.2 _ f1 k hk]
    obtain ⟨Q, e2, d1, d2⟩ := ih1 N (l ++ [fg P k]) (by omega) ll (by omega) hPN hLN hCN hR1 (by rw [List.length_append, List.length_singleton]; omega)
    refine ⟨Q, e2, ?_, o.tr d2⟩
    rw [List.append_assoc] at d1
    exact d1
def ycf (M N : qv_Mem) : Prop := N.2.1 = M.2.1 ∧ (∀ a, (a < 120 ∨ 122 < a) → N.1 a = M.1 a) ∧ ∀ a k, ¬ (a = 106 ∧ k = 18) → N.2.2 a k = M.2.2 a k
theorem y_cheapestBehind {M : qv_Mem} {P : Nat → Nat} (hk9 : zPk P) (hP : yP M P) (hL : yCl M) {l : List Nat} (hR : yR M l) (hl : l.length ≤ 399) {k : Nat} (hk : k < 192) : ∃ N, f_X10_cheapestBehind qv_TT 106 (nI k) M = some N ∧ yR N (l ++ cw P k) ∧ yCo N P ∧ ycf M N := by
  unfold f_X10_cheapestBehind
  obtain ⟨N, e1, c1, c2⟩ := y_costs hk9 hP hL
  have b1 := Dr_cl P hk
  rw [e1, zbo, zjn]
  have hLN : yCl N := by
    refine ⟨by rw [c2.1]; exact hL.1, fun i hi => ?_, fun g hg i hi => by rw [c2.2 118 (by omega) (by omega)]; exact hL.2.2.1 g hg i hi, fun g hg i hi => by rw [c2.2 119 (by omega) (by omega)]; exact hL.2.2.2 g hg i hi⟩
    have := hL.2.1 i hi
    unfold zS at this ⊢
    rw [c2.1]
    exact this
  have hRN : yR N l := by
    unfold yR
    rw [c2.1, c2.2 122 (by omega) (by omega)]
    exact hR
  obtain ⟨Q, e2, d1, d2⟩ := y_cb6 hk9 (Dr P k % 1024) k qv_N N l rfl hk (qv_N_gt _ (by omega)) (fun g hg => by rw [c2.2 110 (by omega) (by omega)]; exact hP g hg) hLN c1 hRN (by omega)
  refine ⟨Q, e2, d1, fun i hi => by rw [d2.2.1 120 (by omega), d2.2.1 121 (by omega)]; exact c1 i hi, ?_, fun a ha => ?_, fun a j hj => ?_⟩
  · rw [d2.1, c2.1]
  · rw [d2.2.1 a (by omega), c2.2 a (by omega) (by omega)]
  · rw [d2.2.2 a j hj, c2.1]
theorem y_cheapest {M : qv_Mem} {P : Nat → Nat} (hk9 : zPk P) (hP : yP M P) (hL : yCl M) (p q : Int32) : ∃ N, f_X10_cheapest qv_TT 106 p q M = some (a_cheapest P p q, N) ∧ ycf M N := by
  unfold f_X10_cheapest a_cheapest
  rcases zr_in p 192 with ⟨k, hk, k2, rfl⟩ | h
  · rw [y_isNumber hL hk, zbo, if_neg zl1n0, if_neg (zr_n hk k2), zi_cl k2]
    by_cases c1 : -2 ≤ q
    · rw [if_pos c1, if_pos c1, zpS, zi_0]
      have hR : yR (qv_upS M 106 18 (nI 0)) [] := ⟨zs_at _ _ _ _, Nat.zero_le _, fun i hi => (by cases hi)⟩
      have hL2 : yCl (qv_upS M 106 18 (nI 0)) := ⟨by rw [zs_ne2 (by omega)]; exact hL.1, hL.2.1, hL.2.2.1, hL.2.2.2⟩
      obtain ⟨N, e1, h1, h2, f1⟩ := y_cheapestBehind hk9 (show yP (qv_upS M 106 18 (nI 0)) P from hP) hL2 hR (Nat.zero_le _) hk
      have hl : (cw P k).length = Dr P k % 1024 := cwd_len _ _ _
      rw [List.nil_append] at h1
      rw [e1, zbo]
      refine ⟨N, ?_, f1.1, f1.2.1, fun a j hj => ?_⟩
      · by_cases c2 : q = -2
        · rw [if_pos c2, if_pos c2, zt_ycl.2.2.2.1, zi_ldI hk (by omega), (h2 k hk).1]
        · rw [if_neg c2, if_neg c2]
          by_cases c3 : q = -1
          · rw [if_pos c3, if_pos c3, zgS, h1.1, hl]
          · have b1 := Dr_cl P hk
            rw [if_neg c3, if_neg c3, zgS, h1.1, hl]
            rcases zr_in q (Dr P k % 1024) with ⟨i, hi, i2, rfl⟩ | hq
            · rw [if_neg (nI_ge hi (by omega)), if_neg (zr_n hi i2), zi_cl i2, zt_row, zi_ldI (by omega) (by omega), h1.2.2 i (by omega)]
            · have hg := zr_ge hq c1 c2 c3
              rw [if_pos hq, if_pos (show nI (Dr P k % 1024) ≤ q from Int32.le_iff_toInt_le.mpr (by rw [nI_toInt (by omega)]; exact hg))]
      · rw [f1.2.2 a j hj, zs_ne2 hj]
    · rw [if_neg c1, if_neg c1]
      exact ⟨M, rfl, rfl, fun _ _ => rfl, fun _ _ _ => rfl⟩
  · rw [y_isNumber0 hL h, zbo, if_pos rfl, if_pos h]
    exact ⟨M, rfl, rfl, fun _ _ => rfl, fun _ _ _ => rfl⟩
