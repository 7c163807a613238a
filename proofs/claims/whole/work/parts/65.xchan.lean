/-! Channels: the class. -/
def zct (t : Nat) : Prop := t = 73 ∨ t = 87
theorem zt_ch {t : Nat} (h : zct t) : qv_rf qv_TT t 0 = t + 1 ∧ qv_rf qv_TT t 1 = t + 2 ∧ qv_rf qv_TT t 3 = t + 3 ∧ qv_rf qv_TT t 4 = t + 5 ∧ qv_rf qv_TT t 5 = t + 7 ∧ qv_rf qv_TT (t + 3) 0 = t + 4 ∧ qv_rf qv_TT (t + 5) 0 = t + 6 ∧ qv_rf qv_TT (t + 7) 0 = t + 8 := by
  rcases h with rfl | rfl
  · decide +kernel
  · decide +kernel
theorem zl9 : (9 : Int32) = nI 9 := id rfl
theorem zl6 : (6 : Int32) = nI 6 := id rfl
def chf (V : Nat → Int × Int) : Nat → Nat → Bool
  | 0, _ => true
  | n + 1, i => decide ((V i).1 % 2 = 0) && chf V n (i + 1)
theorem chf_iff (V : Nat → Int × Int) : ∀ n i, chf V n i = true ↔ ∀ k, i ≤ k → k < i + n → (V k).1 % 2 = 0
  | 0, i => ⟨fun _ k h1 h2 => by omega, fun _ => rfl⟩
  | n + 1, i => by
    show (decide ((V i).1 % 2 = 0) && chf V n (i + 1)) = true ↔ _
    rw [Bool.and_eq_true, decide_eq_true_eq, chf_iff V n (i + 1)]
    constructor
    · intro h k h1 h2
      by_cases e : k = i
      · rw [e]; exact h.1
      · exact h.2 k (by omega) (by omega)
    · intro h
      exact ⟨h i (Nat.le_refl _) (by omega), fun k h1 h2 => h k (by omega) (by omega)⟩
theorem chf_e (V : Nat → Int × Int) : chf V 9 0 = che V 9 := by
  by_cases c : che V 9 = true
  · rw [c]
    exact (chf_iff V 9 0).mpr (fun k _ h2 => (che_iff V 9).mp c k (by omega))
  · rw [Bool.not_eq_true] at c
    rw [c]
    by_cases d : chf V 9 0 = true
    · have := (che_iff V 9).mpr (fun k hk => (chf_iff V 9 0).mp d k (by omega) (by omega))
      rw [c] at this
      cases this
    · rw [Bool.not_eq_true] at d
      exact d
theorem x_even {t : Nat} (ht : zct t) {M : qv_Mem} {V : Nat → Int × Int} (h : chM M (t + 1) (t + 2) V) : f_X1_isEven qv_TT t M = some (if che V 9 = true then 1 else 0) := by
  have T := zt_ch ht
  unfold f_X1_isEven
  rw [zjn, zi_0]
  have key : ∀ (n i f : Nat), i + n = 9 → n < f → qv_lp1 (b_X1_isEven_2 t M qv_TT (fun _ => some 1)) f (nI i) = some (if chf V n i = true then 1 else 0) := by
    intro n
    induction n with
    | zero =>
      intro i f hi hf
      obtain ⟨f, rfl⟩ : ∃ g, f = g + 1 := ⟨f - 1, by omega⟩
      rw [zN1]
      unfold b_X1_isEven_2
      rw [zl9, if_pos (nI_le (by omega) (by omega))]
      rfl
    | succ n ih =>
      intro i f hi hf
      obtain ⟨f, rfl⟩ : ∃ g, f = g + 1 := ⟨f - 1, by omega⟩
      rw [zN1]
      have ih1 := ih (i + 1) f (by omega) (by omega)
      generalize qv_lp1 (b_X1_isEven_2 t M qv_TT (fun _ => some 1)) f = rr at ih1 ⊢
      unfold b_X1_isEven_2
      rw [zl9, if_neg (zi_nle (a := 9) (b := i) (by omega) (by omega)), T.1, zi_ldL (by omega) (by omega), (h i (by omega)).1, nI_1, ih1]
      have e : (lg_cmp (Int64.ofInt (V i).1 &&& 1) 0 = 0) = ((V i).1 % 2 = 0) := by
        rw [lg_cmp_eq, ze_and1, ze_ofInt_mod]
      show _ = some (if (decide ((V i).1 % 2 = 0) && chf V n (i + 1)) = true then 1 else 0)
      by_cases c : (V i).1 % 2 = 0
      · rw [if_pos (by rw [e]; exact c), decide_eq_true c, Bool.true_and]
      · rw [if_neg (by rw [e]; exact c), decide_eq_false c]
        rfl
  rw [key 9 0 qv_N (by omega) (qv_N_gt _ (by omega)), chf_e]
  rfl
theorem x_chlow {t : Nat} (ht : zct t) (k : qv_Mem → Option qv_Mem) : ∀ (f i g : Nat) (M : qv_Mem) (V : Nat → Int × Int), chM M (t + 1) (t + 2) V → chb V → M.2.2 t 2 = nI f → f + i < 1000 → f < g → ∃ M1, qv_lp2 (b_X1_lower_2 t qv_TT k) g (nI i) M = k M1 ∧ chM M1 (t + 1) (t + 2) (chl f V).1 ∧ M1.2.2 t 2 = nI (chl f V).2 ∧ zfr (fun a => a = t ∨ a = t + 1 ∨ a = t + 2) M M1 := by
  have T := zt_ch ht
  intro f
  induction f with
  | zero =>
    intro i g M V hM hb hf h1 h2
    obtain ⟨g, rfl⟩ : ∃ x, g = x + 1 := ⟨g - 1, by omega⟩
    rw [zN2]
    unfold b_X1_lower_2
    rw [show (1000 : Int32) = nI 1000 from rfl, if_neg (zi_nle (a := 1000) (b := i) (by omega) (by omega)), zgS, hf, zi_0, if_pos (nI_le (Nat.le_refl _) (by omega))]
    exact ⟨M, rfl, hM, hf, zfr.rf _ _⟩
  | succ f ih =>
    intro i g M V hM hb hf h1 h2
    obtain ⟨g, rfl⟩ : ∃ x, g = x + 1 := ⟨g - 1, by omega⟩
    rw [zN2]
    have ih1 := ih (i + 1) g
    generalize qv_lp2 (b_X1_lower_2 t qv_TT k) g = rr at ih1 ⊢
    unfold b_X1_lower_2
    rw [show (1000 : Int32) = nI 1000 from rfl, if_neg (zi_nle (a := 1000) (b := i) (by omega) (by omega)), zgS, hf, zi_0, if_neg (zi_nle (a := f + 1) (b := 0) (by omega) (by omega)), x_even ht hM, zbo]
    unfold chl
    by_cases c : che V 9 = true
    · rw [if_pos c, if_neg (show ¬ (1 : Int32) = nI 0 from zl1n0), if_pos c, zjn]
      have key := zinv2 (b := b_X1_lower_25 t qv_TT (fun (M8 : qv_Mem) => qv_gS t 2 M8 (fun v10 => qv_pS t 2 (v10 - 1) M8 (fun M11 => rr (nI i + 1) M11)))) (k := (fun (M8 : qv_Mem) => qv_gS t 2 M8 (fun v10 => qv_pS t 2 (v10 - 1) M8 (fun M11 => rr (nI i + 1) M11)))) (fun j N => chH N (t + 1) (t + 2) V j ∧ zlo M N (fun a => a = t + 1 ∨ a = t + 2)) 0 9 (by omega) (fun j N r2 _ hj hN => ?_) (fun N r2 _ => ?_) qv_N (qv_N_gt _ (by omega)) M ⟨chH_0 hM, zlo.rf _ _⟩
      · obtain ⟨N, ⟨q1, q2⟩, q3⟩ := key
        rw [q3, zgS, zpS, q2.2.1, hf, nI_1, zi_ps]
        have q4 : chM (qv_upS N t 2 (nI f)) (t + 1) (t + 2) (chd V) := chH_9 q1
        obtain ⟨M1, c1, c2, c3, c4⟩ := ih1 (qv_upS N t 2 (nI f)) (chd V) q4 (chb_d hb) (zs_at _ _ _ _) (by omega) (by omega)
        have f2 : zfr (fun a => a = t ∨ a = t + 1 ∨ a = t + 2) N (qv_upS N t 2 (nI f)) := ⟨fun _ _ => rfl, fun _ _ => rfl, fun a ha => zs_ne (fun q => ha (Or.inl q))⟩
        exact ⟨M1, c1, c2, c3, zfr.tr (q2.fr.mono (fun a ha => Or.inr ha)) (zfr.tr f2 c4)⟩
      · obtain ⟨n1, n2⟩ := hN
        unfold b_X1_lower_25
        rw [zl9, if_neg (zi_nle (a := 9) (b := j) (by omega) (by omega)), T.1, T.2.1, zi_ldL (by omega) (by omega), zi_ldL (by omega) (by omega), zi_stL (by omega) (by omega), zi_stL (by omega) (by omega), nI_1]
        exact ⟨_, ⟨chH_step (by omega) hj hb c n1, (n2.tr (zlo_u (Or.inl rfl))).tr (zlo_u (Or.inr rfl))⟩, rfl⟩
      · unfold b_X1_lower_25
        rw [zl9, if_pos (nI_le (Nat.le_refl _) (by omega))]
    · rw [if_neg c, if_pos (show (0 : Int32) = nI 0 from rfl), if_neg c]
      exact ⟨M, rfl, hM, hf, zfr.rf _ _⟩
def chs (S : zq_F) (i : Nat) : Int × Int := if i = 0 then (2 * S.2.1.1, S.2.1.2.1 - S.2.1.2.2.2) else if i = 1 then (-2 * S.2.1.2.2.1, -(S.2.1.2.1 + S.2.1.2.2.2)) else (2 * S.1.1, 2 * S.1.2.1)
theorem ze_m2 (a : Int) : (-2) * Int64.ofInt a = Int64.ofInt (-2 * a) := by
  rw [Int64.ofInt_mul]
  rfl
theorem x_fill {t : Nat} (ht : zct t) {M : qv_Mem} {A B : zq_T} (hA : zT M (t + 5) (t + 6) A) (hB : zT M (t + 3) (t + 4) B) {j : Nat} (hj : j < 3) : ∃ M1, f_X1_fillColumn qv_TT t (nI j) M = some M1 ∧ (∀ k, k < 9 → if k % 3 = j then M1.2.1 (t + 1) k = Int64.ofInt (chs (zq_pmF A.1 B.1) (k / 3)).1 ∧ M1.2.1 (t + 2) k = Int64.ofInt (chs (zq_pmF A.1 B.1) (k / 3)).2 else M1.2.1 (t + 1) k = M.2.1 (t + 1) k ∧ M1.2.1 (t + 2) k = M.2.1 (t + 2) k) ∧ zfr (fun a => a = t + 1 ∨ a = t + 2 ∨ a = t + 7 ∨ a = t + 8) M M1 := by
  have T := zt_ch ht
  unfold f_X1_fillColumn
  rw [T.2.2.2.1, T.2.2.1, T.2.2.2.2.1, T.1, T.2.1]
  obtain ⟨M1, e1, h1, k1⟩ := z_makeProduct (t := t + 7) T.2.2.2.2.2.2.2 T.2.2.2.2.2.2.1 T.2.2.2.2.2.1 (by omega) (by omega) hA hB
  have P := zh_all h1.1
  have m1 : M1.2.1 (t + 1) = M.2.1 (t + 1) := k1.2.1 _ (by omega)
  have m2 : M1.2.1 (t + 2) = M.2.1 (t + 2) := k1.2.1 _ (by omega)
  have p0 : M1.2.1 (t + 8) 0 = Int64.ofInt (zq_pmF A.1 B.1).1.1 := P.1.1
  have p1 : M1.2.1 (t + 8) 1 = Int64.ofInt (zq_pmF A.1 B.1).1.2.1 := P.1.2.1
  have p4 : M1.2.1 (t + 8) 4 = Int64.ofInt (zq_pmF A.1 B.1).2.1.1 := P.2.1.1
  have p5 : M1.2.1 (t + 8) 5 = Int64.ofInt (zq_pmF A.1 B.1).2.1.2.1 := P.2.1.2.1
  have p6 : M1.2.1 (t + 8) 6 = Int64.ofInt (zq_pmF A.1 B.1).2.1.2.2.1 := P.2.1.2.2.1
  have p7 : M1.2.1 (t + 8) 7 = Int64.ofInt (zq_pmF A.1 B.1).2.1.2.2.2 := P.2.1.2.2.2
  have n1 : t + 8 ≠ t + 1 := by omega
  have n2 : t + 8 ≠ t + 2 := by omega
  have n3 : t + 1 ≠ t + 2 := by omega
  have n4 : t + 2 ≠ t + 1 := by omega
  generalize zq_pmF A.1 B.1 = S at p0 p1 p4 p5 p6 p7 ⊢
  rw [e1, zbo, T.2.2.2.2.2.2.2, z_pl.2.1, zbo, zi_ldL (by omega) (by omega), zi_stL (by omega) (by omega), zl1i, nI_add, zi_ldL (by omega) (by omega), zl3, nI_add, zi_ldL (by omega) (by omega), zi_stL (by omega) (by omega), zl2i, nI_add, zi_ldL (by omega) (by omega), nI_add, zi_stL (by omega) (by omega), zi_ldL (by omega) (by omega), zi_ldL (by omega) (by omega), zi_stL (by omega) (by omega), z_pl.1, zbo, zi_ldL (by omega) (by omega), zl6, nI_add, zi_stL (by omega) (by omega), nI_add, zi_ldL (by omega) (by omega), zi_stL (by omega) (by omega)]
  refine ⟨_, rfl, fun k hk => ?_, ?_⟩
  · simp only [zul_at, zul_ne n1, zul_ne n2, zul_ne n3, zul_ne n4, m1, m2, p0, p1, p4, p5, p6, p7, show 4 + 1 = 5 from rfl, show 4 + 2 = 6 from rfl, show 4 + 3 = 7 from rfl, show 0 + 1 = 1 from rfl]
    have c : k = j ∨ k = 3 + j ∨ k = 6 + j ∨ k % 3 ≠ j := by omega
    rcases c with c | c | c | c
    · rw [if_pos (by omega), if_neg (by omega), if_neg (by omega), if_pos c, if_neg (by omega), if_neg (by omega), if_pos c, show k / 3 = 0 by omega]
      refine ⟨(ze_even _).symm, ?_⟩
      exact (Int64.ofInt_sub _ _).symm
    · rw [if_pos (by omega), if_neg (by omega), if_pos c, if_neg (by omega), if_pos c, show k / 3 = 1 by omega]
      refine ⟨ze_m2 _, ?_⟩
      rw [← Int64.ofInt_add, ← Int64.ofInt_neg]
      rfl
    · rw [if_pos (by omega), if_pos c, if_pos c, show k / 3 = 2 by omega]
      exact ⟨(ze_even _).symm, (ze_even _).symm⟩
    · rw [if_neg c, if_neg (by omega), if_neg (by omega), if_neg (by omega), if_neg (by omega), if_neg (by omega), if_neg (by omega)]
      exact ⟨rfl, rfl⟩
  · have S1 : ∀ N N1 : qv_Mem, zlo N N1 (fun a => a = t + 1 ∨ a = t + 2) → zfr (fun a => a = t + 1 ∨ a = t + 2 ∨ a = t + 7 ∨ a = t + 8) N N1 := fun N N1 q => q.fr.mono (fun a ha => by omega)
    refine zfr.tr (k1.fr.mono (fun a ha => by omega)) ?_
    exact S1 _ _ ((((((zlo_u (Or.inl rfl)).tr (zlo_u (Or.inr rfl))).tr (zlo_u (Or.inl rfl))).tr (zlo_u (Or.inr rfl))).tr (zlo_u (Or.inl rfl))).tr (zlo_u (Or.inr rfl)))
