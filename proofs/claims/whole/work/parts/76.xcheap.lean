/-! Cheapest words: the class. -/
def zRn (M : qv_Mem) (P : Nat → Nat) : Prop := pPg M P ∧ ∀ k, k < 192 → M.1 69 k = nI (Dr P k)
def zRs (M : qv_Mem) : Prop := M.2.2 63 9 = 0 ∨ (M.2.2 63 9 = 1 ∧ ∃ P, zPk P ∧ zRn M P)
theorem zRn.cg {M : qv_Mem} {P Q : Nat → Nat} (h : zRn M P) (e : ∀ g ∈ pgs, P g = Q g) : zRn M Q := ⟨fun g hg => by rw [← e g hg]; exact h.1 g hg, fun k hk => by rw [← Dr_cg e k]; exact h.2 k hk⟩
def prE (P Q : Nat → Nat) : Nat → Nat → Bool
  | 0, _ => true
  | n + 1, i => decide (P (pgs.getD i 0) = Q (pgs.getD i 0)) && prE P Q n (i + 1)
theorem prE_iff (P Q : Nat → Nat) : ∀ n i, prE P Q n i = true ↔ ∀ j, i ≤ j → j < i + n → P (pgs.getD j 0) = Q (pgs.getD j 0)
  | 0, i => ⟨fun _ k h1 h2 => by omega, fun _ => rfl⟩
  | n + 1, i => by
    show (decide (P (pgs.getD i 0) = Q (pgs.getD i 0)) && prE P Q n (i + 1)) = true ↔ _
    rw [Bool.and_eq_true, decide_eq_true_eq, prE_iff P Q n (i + 1)]
    constructor
    · intro h j h1 h2
      by_cases e : j = i
      · rw [e]; exact h.1
      · exact h.2 j (by omega) (by omega)
    · intro h
      exact ⟨h i (Nat.le_refl _) (by omega), fun j h1 h2 => h j (by omega) (by omega)⟩
theorem x_isRankedBy {M : qv_Mem} {P Q : Nat → Nat} (hQ9 : zPk Q) (hP9 : zPk P) (hQ : pPg M Q) (hP : zCP M P) : f_X2_isRankedBy qv_TT 63 4 M = some (if prE Q P 5 0 = true then 1 else 0) := by
  unfold f_X2_isRankedBy
  rw [zjn, zi_0]
  have key1 : ∀ (n i f : Nat), i + n = 5 → n < f → qv_lp1 (b_X2_isRankedBy_10 63 4 M qv_TT (fun _ => some 1)) f (nI i) = some (if prE Q P n i = true then 1 else 0) := by
    intro n
    induction n with
    | zero =>
      intro i f hi hf
      obtain ⟨f, rfl⟩ : ∃ g, f = g + 1 := ⟨f - 1, by omega⟩
      rw [zN1]
      unfold b_X2_isRankedBy_10
      rw [zl5i, if_pos (nI_le (by omega) (by omega))]
      rfl
    | succ n ih =>
      intro i f hi hf
      obtain ⟨f, rfl⟩ : ∃ g, f = g + 1 := ⟨f - 1, by omega⟩
      rw [zN1]
      have ih1 := ih (i + 1) f (by omega) (by omega)
      generalize qv_lp1 (b_X2_isRankedBy_10 63 4 M qv_TT (fun _ => some 1)) f = rr at ih1 ⊢
      unfold b_X2_isRankedBy_10
      have hg := (zpg i (by omega)).2
      have g7 := pgs_lt hg
      have q9 := hQ9 _ g7
      have p9 := hP9 _ g7
      rw [zl5i, if_neg (zi_nle (a := 5) (b := i) (by omega) (by omega)), zi_ldP (by omega), zt_cl.2.2.2.2.2.2.1, zi_ldI g7 (by omega), zi_ldI g7 (by omega), hQ _ hg, hP _ g7, nI_1]
      show _ = some (if (decide (Q (pgs.getD i 0) = P (pgs.getD i 0)) && prE Q P n (i + 1)) = true then 1 else 0)
      by_cases c : Q (pgs.getD i 0) = P (pgs.getD i 0)
      · rw [if_pos (by rw [c]), decide_eq_true c, Bool.true_and]
        exact ih1
      · rw [if_neg (fun z => c ((nI_eq (by omega) (by omega)).mp z)), decide_eq_false c]
        rfl
  rw [key1 5 0 qv_N (by omega) (qv_N_gt _ (by omega))]
  rfl
noncomputable def x_k3 (M1 : qv_Mem) : Option qv_Mem :=
 qv_cc 7 0 7 0 7 (qv_jn (qv_cpI M1 4 (qv_rf qv_TT 63 6) (0 : Int32).toNatClampNeg (0 : Int32).toNatClampNeg (7 : Int32).toNatClampNeg) fun M4 =>
 qv_pZ 63 9 1 M4 (fun M5 =>
 qv_jn (fun (M6 : qv_Mem) =>
 qv_stI 192 (qv_rf qv_TT 63 5) 0 0 M6 (fun M8 =>
 qv_jn (fun (M9 : qv_Mem) =>
 some M9) (fun k10 =>
 qv_lp3 (b_X2_rankBy_71 63 qv_TT k10) qv_N 1 0 M8))) (fun k7 =>
 qv_lp2 (b_X2_rankBy_39 63 qv_TT k7) qv_N 0 M5)))
theorem x_rk39 (M : qv_Mem) (k : qv_Mem → Option qv_Mem) : ∃ N, qv_lp2 (b_X2_rankBy_39 63 qv_TT k) qv_N 0 M = k N ∧ (∀ j, j < 192 → N.1 69 j = nI 1073741824) ∧ zr9 M N := by
  rw [zi_0]
  have key1 := zinv2 (b := b_X2_rankBy_39 63 qv_TT k) (k := k) (fun i N => (∀ j, j < i → N.1 69 j = nI 1073741824) ∧ zr9 M N) 0 192 (by omega) (fun i N r _ hi hN => ?_) (fun N r _ => ?_) qv_N (qv_N_gt _ (by omega)) M ⟨fun j hj => by omega, zr9.rf _⟩
  · obtain ⟨N, ⟨a1, a2⟩, e⟩ := key1
    exact ⟨N, e, a1, a2⟩
  · unfold b_X2_rankBy_39
    rw [zl192, if_neg (zi_nle (a := 192) (b := i) (by omega) (by omega)), zt_cl.2.2.2.2.2.1, zi_stI hi (by omega), nI_1]
    refine ⟨_, ⟨fun j hj => ?_, hN.2.tr (zr9_u _ _ _)⟩, rfl⟩
    rw [zup_at]
    split
    · rfl
    · exact hN.1 j (by omega)
  · unfold b_X2_rankBy_39
    rw [zl192, if_pos (nI_le (Nat.le_refl _) (by omega))]
def zSc (a : Nat) : Prop := 63 ≤ a ∧ a ≤ 72
theorem zr9.fr {M N : qv_Mem} (h : zr9 M N) : zfr zSc M N := ⟨fun a ha => h.2 a (fun e => ha (by rw [e]; unfold zSc; omega)), fun a _ => by rw [h.1], fun a _ => by rw [h.1]⟩
theorem x_rank3 {M : qv_Mem} {P : Nat → Nat} (hk9 : zPk P) (hP : zCP M P) (hL : zClP M) : ∃ N, x_k3 M = some N ∧ zClP N ∧ zRn N P ∧ N.2.2 63 9 = 1 ∧ zfr zSc M N := by
  unfold x_k3
  have e7 : (7 : Int32).toNatClampNeg = 7 := by decide
  unfold qv_cc
  rw [if_pos (by decide), zjn, e7, z0c, zt_cl.2.2.2.2.2.2.1, zpZ1, zjn]
  generalize hM5 : qv_upS (qv_cpI M 4 70 0 0 7) 63 9 1 = M5
  have f5 : zfr zSc M M5 := by
    rw [← hM5]
    refine ⟨fun a ha => ?_, fun _ _ => rfl, fun a ha => ?_⟩
    · funext j
      show (if a = 70 then _ else _) = _
      rw [if_neg (fun e => ha (by rw [e]; unfold zSc; omega))]
    · exact zs_ne (fun e => ha (by rw [e]; unfold zSc; omega))
  have i5 : ∀ a, a ≠ 70 → M5.1 a = M.1 a := fun a ha => by
    rw [← hM5]
    funext j
    show (if a = 70 then _ else _) = _
    rw [if_neg ha]
  have s5 : M5.2.2 63 9 = 1 := by rw [← hM5]; exact zs_at _ _ _ _
  have s8 : M5.2.2 63 8 = M.2.2 63 8 := by rw [← hM5]; exact zs_ne2 (by omega)
  have p5 : pPg M5 P := fun g hg => by
    have g7 := pgs_lt hg
    rw [← hM5]
    show va_cpy (M.1 4) (M.1 70) 0 0 7 g = _
    unfold va_cpy
    rw [if_pos (by omega), show 0 + (g - 0) = g by omega]
    exact hP g g7
  obtain ⟨N, e1, c1, c2⟩ := x_rk39 M5 (fun (M6 : qv_Mem) => qv_stI 192 (qv_rf qv_TT 63 5) 0 0 M6 (fun M8 => qv_jn (fun (M9 : qv_Mem) => some M9) (fun k10 => qv_lp3 (b_X2_rankBy_71 63 qv_TT k10) qv_N 1 0 M8)))
  rw [e1, zt_cl.2.2.2.2.2.1, zi_0, zi_stI (by omega) (by omega), zjn]
  have z := c2.tr (zr9_u N 0 (nI 0))
  obtain ⟨Q, e2, d1, d2⟩ := x_rk71 hk9 192 0 qv_N true (qv_upI N 69 0 (nI 0)) (fun k => if k = 0 then 0 else 1073741824) (by omega) (qv_N_gt _ (by omega)) (fun g hg => by rw [z.2 70 (by omega)]; exact p5 g hg) (fun g hg k hk => by rw [z.2 65 (by omega), i5 65 (by omega)]; exact hL.2.2.1 g hg k hk) (fun x => by split <;> omega) (fun k hk => by
      rw [zup_at]
      dsimp only
      split
      · rfl
      · exact c1 k hk) (rlJ_0 (fun x hx => by
        have a := Dr_lt hk9 hx
        unfold Dr at a
        split
        · rename_i e
          rw [e, Dd_0]
          omega
        · omega) rfl) (fun q => (by cases q))
  have z2 := z.tr d2
  refine ⟨Q, e2, ⟨?_, fun i hi => ?_, fun g hg k hk => ?_, fun g hg k hk => ?_⟩, ⟨fun g hg => ?_, d1⟩, ?_, f5.tr z2.fr⟩
  · rw [z2.1, s8]; exact hL.1
  · rw [z2.2 64 (by omega), i5 64 (by omega)]; exact hL.2.1 i hi
  · rw [z2.2 65 (by omega), i5 65 (by omega)]; exact hL.2.2.1 g hg k hk
  · rw [z2.2 66 (by omega), i5 66 (by omega)]; exact hL.2.2.2 g hg k hk
  · rw [z2.2 70 (by omega)]; exact p5 g hg
  · rw [z2.1]; exact s5
theorem x_rankBy {M : qv_Mem} {P : Nat → Nat} (hk9 : zPk P) (hP : zCP M P) (hL : zCl M) (hS : zRs M) : ∃ N, f_X2_rankBy qv_TT 63 4 M = some N ∧ zClP N ∧ zRn N P ∧ N.2.2 63 9 = 1 ∧ zfr zSc M N := by
  unfold f_X2_rankBy
  obtain ⟨M1, e1, h1, k1⟩ := x_prepare hL
  have f1 : zfr zSc M M1 := k1.1.mono (fun a ha => by unfold zSc; omega)
  have hP1 : zCP M1 P := fun g hg => by rw [k1.1.1 4 (by omega)]; exact hP g hg
  obtain ⟨N3, e3, a1, a2, a3, a4⟩ := x_rank3 hk9 hP1 h1
  have e3' := e3
  unfold x_k3 at e3'
  rw [e1, zbo, zgS, k1.2, zjn]
  rcases hS with h | ⟨h, Q, q1, q2, q3⟩
  · rw [h, if_pos rfl, e3']
    exact ⟨N3, rfl, a1, a2, a3, f1.tr a4⟩
  · have hQ1 : pPg M1 Q := fun g hg => by rw [k1.1.1 70 (by omega)]; exact q2 g hg
    rw [h, if_neg zl1n0, x_isRankedBy q1 hk9 hQ1 hP1, zbo]
    by_cases c : prE Q P 5 0 = true
    · rw [if_pos c, if_neg zl1n0]
      have eq : ∀ g ∈ pgs, Q g = P g := fun g hg => by
        obtain ⟨i, hi, e⟩ := zpg_mem hg
        have := (prE_iff Q P 5 0).mp c i (by omega) (by omega)
        rw [e] at this
        exact this
      refine ⟨M1, rfl, h1, zRn.cg ⟨hQ1, fun k hk => ?_⟩ eq, k1.2.trans h, f1⟩
      rw [k1.1.1 69 (by omega)]
      exact q3 k hk
    · rw [if_neg c, if_pos rfl, e3']
      exact ⟨N3, rfl, a1, a2, a3, f1.tr a4⟩
theorem zRn.rs {M : qv_Mem} {P : Nat → Nat} (h : zRn M P) (hP : zPk P) (h9 : M.2.2 63 9 = 1) : zRs M := Or.inr ⟨h9, P, hP, h⟩
/-! the first gate of a cheapest word -/
theorem Dd_ahead (wf : Nat → Nat) {k g : Nat} (hk : k < 192) (hg : g ∈ pgs) : Dd wf k ≤ wf g + Dd wf (lef k g) := by
  obtain ⟨u, u1, u2⟩ := Dd_opt wf (cl_lef hk hg).2
  have ho : okw (g :: u) := fun x hx => by
    rcases List.mem_cons.mp hx with e | e
    · rw [e]; exact hg
    · exact u1.1 x e
  have hc : CL (led 0 (g :: u)) = CL k := by
    rw [led0_cl ho, zq_val_cons, ← led0_cl u1.1, u2, ← (cl_lef hk hg).1, ← zq_lm_assoc, (zq_gi g (pgs_lt hg)).1, zq_one_lm (cl_ok k hk).ls]
  have e : led 0 (g :: u) = k := cl_inj (led_lt _ 0 ho (by omega)) hk hc
  have := (Dd_spec wf hk).2 (g :: u) ho e
  have q : wsum wf (g :: u) = wf g + wsum wf u := rfl
  rw [q, u1.2, u2] at this
  exact this
theorem Dd_first (wf : Nat → Nat) {k : Nat} (hk : k < 192) (h0 : k ≠ 0) : ∃ g ∈ pgs, Dd wf (lef k g) + wf g = Dd wf k := by
  obtain ⟨w, w1, w2⟩ := Dd_opt wf hk
  cases w with
  | nil => exact absurd w2.symm h0
  | cons g u =>
    have hg := w1.1 g List.mem_cons_self
    have hu : okw u := fun x hx => w1.1 x (List.mem_cons_of_mem _ hx)
    refine ⟨g, hg, ?_⟩
    have hc : CL (led 0 u) = CL (lef k g) := by
      have a := led0_cl w1.1
      rw [w2, zq_val_cons] at a
      rw [← (cl_lef hk hg).1, a, ← zq_lm_assoc, (zq_gi g (pgs_lt hg)).2, zq_one_lm (zq_val_ls u), led0_cl hu]
    have e : led 0 u = lef k g := cl_inj (led_lt u 0 hu (by omega)) (cl_lef hk hg).2 hc
    have a := (Dd_spec wf (cl_lef hk hg).2).2 u hu e
    have b := Dd_ahead wf hk hg
    have c := w1.2
    rw [w2] at c
    have q : wsum wf (g :: u) = wf g + wsum wf u := rfl
    omega
noncomputable def fgL (P : Nat → Nat) (k : Nat) : List Nat → Nat
  | [] => 9
  | g :: l => if Dr P (lef k g) + wK 1024 P g = Dr P k then g else fgL P k l
noncomputable def fg (P : Nat → Nat) (k : Nat) : Nat := fgL P k pgs
theorem fgL_in {P : Nat → Nat} {k : Nat} : ∀ l : List Nat, (∃ g ∈ l, Dr P (lef k g) + wK 1024 P g = Dr P k) → fgL P k l ∈ l ∧ Dr P (lef k (fgL P k l)) + wK 1024 P (fgL P k l) = Dr P k
  | [], ⟨g, hg, _⟩ => (by cases hg)
  | g :: l, h => by
    unfold fgL
    by_cases c : Dr P (lef k g) + wK 1024 P g = Dr P k
    · rw [if_pos c]
      exact ⟨List.mem_cons_self, c⟩
    · rw [if_neg c]
      obtain ⟨x, hx, hx2⟩ := h
      rcases List.mem_cons.mp hx with e | e
      · exact absurd (e ▸ hx2) c
      · have := fgL_in l ⟨x, e, hx2⟩
        exact ⟨List.mem_cons_of_mem _ this.1, this.2⟩
theorem fg_in {P : Nat → Nat} {k : Nat} (hk : k < 192) (h0 : k ≠ 0) : fg P k ∈ pgs ∧ Dr P (lef k (fg P k)) + wK 1024 P (fg P k) = Dr P k := fgL_in pgs (Dd_first (wK 1024 P) hk h0)
/-- length and cost -/
theorem Dr_cl (P : Nat → Nat) {k : Nat} (hk : k < 192) : Dr P k % 1024 ≤ 191 := by
  obtain ⟨c, l, h1, h2, -⟩ := Dd_lex (K := 1024) (K2 := 1024) (by omega) (by omega) P hk
  unfold Dr
  omega
theorem Dr_0 (P : Nat → Nat) : Dr P 0 = 0 := Dd_0 _
theorem Dr_n0 {P : Nat → Nat} {k : Nat} (hk : k < 192) (h : Dr P k % 1024 = 0) : k = 0 := by
  by_cases h0 : k = 0
  · exact h0
  · obtain ⟨f1, f2⟩ := fg_in (P := P) hk h0
    have a := Dr_cl P (cl_lef hk f1).2
    unfold wK at f2
    omega
theorem fg_len {P : Nat → Nat} {k : Nat} (hk : k < 192) (h0 : k ≠ 0) : Dr P (lef k (fg P k)) % 1024 + 1 = Dr P k % 1024 ∧ Dr P (lef k (fg P k)) / 1024 + P (fg P k) = Dr P k / 1024 := by
  obtain ⟨f1, f2⟩ := fg_in (P := P) hk h0
  have a := Dr_cl P (cl_lef hk f1).2
  unfold wK at f2
  omega
/-- the cheapest word -/
noncomputable def cwd (P : Nat → Nat) : Nat → Nat → List Nat
  | 0, _ => []
  | n + 1, k => fg P k :: cwd P n (lef k (fg P k))
noncomputable def cw (P : Nat → Nat) (k : Nat) : List Nat := cwd P (Dr P k % 1024) k
theorem cwd_len (P : Nat → Nat) : ∀ n k, (cwd P n k).length = n
  | 0, _ => rfl
  | n + 1, k => by
    show (cwd P n _).length + 1 = n + 1
    rw [cwd_len P n]
theorem cwd_ok {P : Nat → Nat} : ∀ n k, k < 192 → n = Dr P k % 1024 → ∀ g ∈ cwd P n k, g ∈ pgs
  | 0, k, _, _ => fun g hg => (by cases hg)
  | n + 1, k, hk, hn => fun g hg => by
    have h0 : k ≠ 0 := fun e => by
      rw [e, Dr_0] at hn
      omega
    obtain ⟨f1, f2⟩ := fg_in (P := P) hk h0
    have fl := fg_len (P := P) hk h0
    rcases List.mem_cons.mp hg with e | e
    · rw [e]; exact f1
    · exact cwd_ok n (lef k (fg P k)) (cl_lef hk f1).2 (by omega) g e
