/-! clifford, take, leads, on both sides. -/
noncomputable def a_clifford (R : Nat → zq_T) (p : Int32) : Int32 := if zr p 4 then -1 else cix (R p.toNatClampNeg) 192
def a_take (R : Nat → zq_T) (p q : Int32) : Int32 × (Nat → zq_T) := if zr p 4 then (-1, R) else if zr q 192 then (-1, R) else a_settle R p.toNatClampNeg (CL q.toNatClampNeg)
def a_leads (p q : Int32) : Int32 := if zr p 192 then -1 else if zr q 7 ∨ q = 1 ∨ q = 6 then -1 else nI (beh p.toNatClampNeg q.toNatClampNeg)
def zSC (a : Nat) : Prop := (63 ≤ a ∧ a ≤ 72) ∨ zSR a
theorem zCR.pf {M M1 : qv_Mem} {R : Nat → zq_T} (h : zCR M R) (k : zpf M M1) : zCR M1 R := h.fr k.1 (fun a _ _ => by omega)
theorem zSC_p {M M1 : qv_Mem} (k : zpf M M1) : zfr zSC M M1 := k.1.mono (fun a ha => by unfold zSC; omega)
theorem x_clifford {M : qv_Mem} {R : Nat → zq_T} (hC : zCR M R) (hR : zRk R) (hL : zCl M) (p : Int32) : ∃ M1, f_X9_clifford qv_TT 0 p M = some (a_clifford R p, M1) ∧ zCl M1 ∧ zpf M M1 := by
  unfold f_X9_clifford a_clifford
  rcases zr_in p 4 with ⟨r, hr, r2, rfl⟩ | h
  · have e40 := (hR r hr).2
    rw [x_isReg hr, zbo, if_neg zl1n0, if_neg (zr_n hr r2), zt_cl.2.2.2.2.2.2.2.2.2]
    obtain ⟨M1, e1, h1, k1⟩ := x_prepare hL
    rw [e1, zbo, zi_in hr (by omega), zgd, zt_r hr, zi_cl r2, x_find (zt_rl hr) h1 ((hC.pf k1) r hr) ((hR r hr).1.b61 (by omega)) (by omega), zbo]
    exact ⟨M1, rfl, Or.inr h1, k1⟩
  · rw [x_isReg0 h, zbo, if_pos rfl, if_pos h]
    exact ⟨M, rfl, hL, zpf.rf _⟩
theorem zCl.fr {M M1 : qv_Mem} {S : Nat → Prop} (h : zCl M) (f : zfr S M M1) (hS : ∀ a, 63 ≤ a → a ≤ 66 → ¬ S a) : zCl M1 := by
  have e1 := f.2.2 63 (hS _ (by omega) (by omega))
  have e2 := f.1 64 (hS _ (by omega) (by omega))
  have e3 := f.1 65 (hS _ (by omega) (by omega))
  have e4 := f.1 66 (hS _ (by omega) (by omega))
  unfold zCl zClP zbh zlf at h ⊢
  rw [e1, e2, e3, e4]
  exact h
theorem x_take {M : qv_Mem} {R : Nat → zq_T} (hC : zCR M R) (hL : zCl M) (p q : Int32) : ∃ M1, f_X9_take qv_TT 0 p q M = some ((a_take R p q).1, M1) ∧ zCR M1 (a_take R p q).2 ∧ zCl M1 ∧ zfr zSC M M1 ∧ M1.2.2 63 9 = M.2.2 63 9 ∧ M1.1 69 = M.1 69 ∧ M1.1 70 = M.1 70 := by
  unfold f_X9_take a_take
  rcases zr_in p 4 with ⟨r, hr, r2, rfl⟩ | h
  · rw [x_isReg hr, zbo, if_neg zl1n0, if_neg (zr_n hr r2), zl192]
    rcases zr_in q 192 with ⟨k, hk, k2, rfl⟩ | h
    · rw [x_below hk (by omega), zbo, if_neg zl1n0, if_neg (zr_n hk k2), zt_cl.2.2.2.2.2.2.2.2.2, zt_work]
      obtain ⟨M1, e1, h1, k1⟩ := x_prepare hL
      have hE := (cl_key hk).2.2
      obtain ⟨M2, e2, h2, k2'⟩ := x_load (t := 98) zt_wk hk (h1.2.1 k hk)
      rw [e1, zbo, e2, zbo, zi_cl r2, zi_cl k2]
      obtain ⟨M3, e3, h3, k3⟩ := x_settle ((hC.pf k1).wk k2') hr h2 (by omega)
      rw [e3, zbp]
      have f2 := k2'.fr
      refine ⟨M3, rfl, h3, ((show zCl M1 from Or.inr h1).fr f2 (fun a _ _ => by omega)).fr k3 (fun a _ _ => by unfold zSR; omega), (zSC_p k1).tr ((zfr.mono (zSR_w k2') (fun a ha => Or.inr ha)).tr (k3.mono (fun a ha => Or.inr ha))), ?_, ?_, ?_⟩
      · rw [k3.2.2 63 (by unfold zSR; omega), f2.2.2 63 (by omega)]
        exact k1.2
      · rw [k3.1 69 (by unfold zSR; omega), f2.1 69 (by omega), k1.1.1 69 (by omega)]
      · rw [k3.1 70 (by unfold zSR; omega), f2.1 70 (by omega), k1.1.1 70 (by omega)]
    · rw [x_below0 h (by omega), zbo, if_pos rfl, if_pos h]
      exact ⟨M, rfl, hC, hL, zfr.rf _ _, rfl, rfl, rfl⟩
  · rw [x_isReg0 h, zbo, if_pos rfl, if_pos h]
    exact ⟨M, rfl, hC, hL, zfr.rf _ _, rfl, rfl, rfl⟩
theorem pgs_of {g : Nat} (hg : g < 7) (h1 : g ≠ 1) (h6 : g ≠ 6) : g ∈ pgs := by
  unfold pgs
  simp
  omega
theorem x_leads {M : qv_Mem} (hL : zCl M) (p q : Int32) : ∃ M1, f_X9_leads qv_TT 0 p q M = some (a_leads p q, M1) ∧ zCl M1 ∧ zpf M M1 := by
  unfold f_X9_leads a_leads
  rw [zl192]
  rcases zr_in p 192 with ⟨k, hk, k2, rfl⟩ | h
  · rw [x_below hk (by omega), zbo, if_neg zl1n0, if_neg (zr_n hk k2)]
    rcases zr_in q 7 with ⟨g, hg, g2, rfl⟩ | h
    · rw [x_isGate hg, zbo, if_neg zl1n0]
      by_cases c1 : nI g = 1
      · rw [if_pos c1, if_pos (Or.inr (Or.inl c1))]
        exact ⟨M, rfl, hL, zpf.rf _⟩
      · rw [if_neg c1]
        by_cases c6 : nI g = 6
        · rw [if_pos c6, if_pos (Or.inr (Or.inr c6))]
          exact ⟨M, rfl, hL, zpf.rf _⟩
        · have gp : g ∈ pgs := pgs_of hg (fun e => c1 (by rw [e]; rfl)) (fun e => c6 (by rw [e]; rfl))
          rw [if_neg c6, if_neg (fun z => z.elim (zr_n hg g2) (fun z => z.elim c1 c6)), zt_cl.2.2.2.2.2.2.2.2.2, zi_cl k2, zi_cl g2]
          obtain ⟨M1, e1, h1, k1⟩ := x_prepare hL
          rw [e1, zbo, x_next hk hg (h1.2.2.1 g gp k hk), zbo]
          exact ⟨M1, rfl, Or.inr h1, k1⟩
    · rw [x_isGate0 h, zbo, if_pos rfl, if_pos (Or.inl h)]
      exact ⟨M, rfl, hL, zpf.rf _⟩
  · rw [x_below0 h (by omega), zbo, if_pos rfl, if_pos h]
    exact ⟨M, rfl, hL, zpf.rf _⟩
/-! the reference -/
theorem zt_ycl : qv_rf qv_TT 106 1 = 108 ∧ qv_rf qv_TT 106 12 = 118 ∧ qv_rf qv_TT 106 13 = 119 ∧ qv_rf qv_TT 106 15 = 120 ∧ qv_rf qv_TT 106 16 = 121 := by decide +kernel
theorem sl_eq {M : qv_Mem} {q q2 k s : Nat} {A B : zq_T} (hA : zS M q k A) (hB : zS M q2 s B) (ba : zb A.1 2305843009213693952) (bb : zb B.1 2305843009213693952) (ea : A.2 < 2147483648) (eb : B.2 < 2147483648) : (∀ i, i < 17 → M.2.1 q (17 * k + i) = M.2.1 q2 (17 * s + i)) ↔ A = B := by
  constructor
  · intro h
    have e1 : A.1 = B.1 := zc_ext (fun j hj => by
      have h1 := h j (by omega)
      have h2 : M.2.1 q (17 * k + j) = Int64.ofInt (zc A.1 j) := hA.1 j hj
      have h3 : M.2.1 q2 (17 * s + j) = Int64.ofInt (zc B.1 j) := hB.1 j hj
      rw [h2, h3] at h1
      obtain ⟨a1, a2⟩ := zb_c ba hj
      obtain ⟨b1, b2⟩ := zb_c bb hj
      exact (ze_inj (by omega) (by omega) (by omega) (by omega)).mp h1)
    have e2 : A.2 = B.2 := by
      have h1 := h 16 (by omega)
      rw [hA.2, hB.2] at h1
      have := (ze_inj (by omega) (by omega) (by omega) (by omega)).mp h1
      omega
    exact Prod.ext e1 e2
  · intro h i hi
    subst h
    by_cases c : i = 16
    · rw [c, hA.2, hB.2]
    · exact (hA.1 i (by omega)).trans (hB.1 i (by omega)).symm
def sle (M : qv_Mem) (k s : Nat) : Nat → Nat → Bool
  | 0, _ => true
  | n + 1, i => decide (M.2.1 108 (17 * k + i) = M.2.1 107 (17 * s + i)) && sle M k s n (i + 1)
theorem sle_iff (M : qv_Mem) (k s : Nat) : ∀ n i, sle M k s n i = true ↔ ∀ j, i ≤ j → j < i + n → M.2.1 108 (17 * k + j) = M.2.1 107 (17 * s + j)
  | 0, i => ⟨fun _ k h1 h2 => by omega, fun _ => rfl⟩
  | n + 1, i => by
    show (decide (M.2.1 108 (17 * k + i) = M.2.1 107 (17 * s + i)) && sle M k s n (i + 1)) = true ↔ _
    rw [Bool.and_eq_true, decide_eq_true_eq, sle_iff M k s n (i + 1)]
    constructor
    · intro h j h1 h2
      by_cases e : j = i
      · rw [e]; exact h.1
      · exact h.2 j (by omega) (by omega)
    · intro h
      exact ⟨h i (Nat.le_refl _) (by omega), fun j h1 h2 => h j (by omega) (by omega)⟩
theorem y_sle {M : qv_Mem} {k s : Nat} (hk : k < 192) (hs : s < 20) (kk : Int32 → Option Int32) : ∀ (n i f : Nat), i + n = 17 → n + 1 < f → qv_lp2 (b_X10_cliffordOf_15 106 (nI s) M qv_TT (nI k) kk) f 1 (nI i) = kk (if sle M k s n i = true then 1 else 0) := by
  intro n
  induction n with
  | zero =>
    intro i f hi hf
    obtain ⟨f, rfl⟩ : ∃ g, f = g + 1 := ⟨f - 1, by omega⟩
    rw [zN2]
    unfold b_X10_cliffordOf_15
    rw [zl17, if_pos (nI_le (by omega) (by omega))]
    rfl
  | succ n ih =>
    intro i f hi hf
    obtain ⟨f, rfl⟩ : ∃ g, f = g + 2 := ⟨f - 2, by omega⟩
    rw [zN2]
    have ih1 := ih (i + 1) (f + 1) (by omega) (by omega)
    have z0 : qv_lp2 (b_X10_cliffordOf_15 106 (nI s) M qv_TT (nI k) kk) (f + 1) 0 (nI (i + 1)) = kk 0 := by
      rw [zN2]
      unfold b_X10_cliffordOf_15
      by_cases c : (17 : Int32) ≤ nI (i + 1)
      · rw [if_pos c]
      · rw [if_neg c, if_pos rfl]
    generalize qv_lp2 (b_X10_cliffordOf_15 106 (nI s) M qv_TT (nI k) kk) (f + 1) = rr at ih1 z0 ⊢
    unfold b_X10_cliffordOf_15
    rw [zl17, if_neg (zi_nle (a := 17) (b := i) (by omega) (by omega)), if_neg zl1n0, zt_ycl.1, zt_tab, zi_mul, nI_add, zi_ldL (by omega) (by omega), zi_mul, nI_add, zi_ldL (by omega) (by omega), zjn, nI_1]
    show _ = kk (if (decide (M.2.1 108 (17 * k + i) = M.2.1 107 (17 * s + i)) && sle M k s n (i + 1)) = true then 1 else 0)
    by_cases c : M.2.1 108 (17 * k + i) = M.2.1 107 (17 * s + i)
    · rw [if_pos (by rw [lg_cmp_eq]; exact c), decide_eq_true c, Bool.true_and]
      exact ih1
    · rw [if_neg (by rw [lg_cmp_eq]; exact c), decide_eq_false c]
      exact z0
theorem y_cliffordOf {M : qv_Mem} {A : zq_T} {c s : Nat} (hc : c ≤ 192) (hs : s < 20) (h14 : M.2.2 106 14 = nI c) (hK : ∀ i, i < c → zS M 108 i (CL i)) (hA : zS M 107 s A) (ba : zb A.1 2305843009213693952) (ea : A.2 < 2147483648) : f_X10_cliffordOf qv_TT 106 (nI s) M = some (cix A c) := by
  unfold f_X10_cliffordOf
  rw [zjn, zi_0]
  have key1 : ∀ (n i f : Nat), i + n = c → n < f → (∀ k, k < i → CL k ≠ A) → qv_lp1 (b_X10_cliffordOf_2 106 (nI s) M qv_TT (fun _ => some (-2))) f (nI i) = some (cix A c) := by
    intro n
    induction n with
    | zero =>
      intro i f hi hf hn
      obtain ⟨f, rfl⟩ : ∃ g, f = g + 1 := ⟨f - 1, by omega⟩
      rw [zN1]
      unfold b_X10_cliffordOf_2
      rw [zgS, h14, if_pos (nI_le (by omega) (by omega)), cix_out (fun k hk => hn k (by omega))]
    | succ n ih =>
      intro i f hi hf hn
      obtain ⟨f, rfl⟩ : ∃ g, f = g + 1 := ⟨f - 1, by omega⟩
      rw [zN1]
      have ih1 := ih (i + 1) f (by omega) (by omega)
      generalize qv_lp1 (b_X10_cliffordOf_2 106 (nI s) M qv_TT (fun _ => some (-2))) f = rr at ih1 ⊢
      unfold b_X10_cliffordOf_2
      have hE := (cl_key (show i < 192 by omega)).2.2
      have iff := sl_eq (hK i (by omega)) hA (zb_le (cl_b (by omega)) (by decide)) ba (by omega) ea
      rw [zgS, h14, if_neg (nI_ge (show i < c by omega) (by omega)), zjn, zi_0, y_sle (by omega) hs _ 17 0 qv_N (by omega) (qv_N_gt _ (by omega)), nI_1]
      by_cases e : CL i = A
      · rw [if_pos ((sle_iff _ _ _ _ _).mpr (fun j _ hj => iff.mpr e j (by omega))), cix_in hc (by omega) e, if_neg (show ¬ (1 : Int32) = nI 0 from zl1n0)]
      · rw [if_neg (fun q => e (iff.mp (fun j hj => (sle_iff _ _ _ _ _).mp q j (by omega) (by omega)))), if_pos (show (0 : Int32) = nI 0 from rfl)]
        exact ih1 (fun k hk => by
          by_cases z : k = i
          · rw [z]; exact e
          · exact hn k (by omega))
  exact key1 c 0 qv_N (by omega) (qv_N_gt _ (by omega)) (fun k hk => by omega)
def y_lo (F G : Nat → Int64) (k s n : Nat) : Nat → Int64 := fun j => if 17 * s ≤ j ∧ j < 17 * s + n then G (17 * k + (j - 17 * s)) else F j
theorem y_loads {M : qv_Mem} {k s : Nat} (hk : k < 192) (hs : s < 20) {A : zq_T} (h : zS M 108 k A) : ∃ M1, f_X10_loads qv_TT 106 (nI k) (nI s) M = some M1 ∧ zS M1 107 s A ∧ zso M M1 107 (fun x => x = s) := by
  unfold f_X10_loads
  rw [zjn, zi_0]
  have key1 := zfor2 (b := b_X10_loads_2 106 (nI k) (nI s) qv_TT (fun M1 => some M1)) (k := fun M1 => some M1) (fun i => zf M 107 (y_lo (M.2.1 107) (M.2.1 108) k s i)) 0 17 (by omega) (fun i r _ hi => ?_) (fun r => ?_) qv_N (qv_N_gt _ (by omega))
  · have e0 : zf M 107 (y_lo (M.2.1 107) (M.2.1 108) k s 0) = M := by
      have : y_lo (M.2.1 107) (M.2.1 108) k s 0 = M.2.1 107 := by
        funext j
        unfold y_lo
        rw [if_neg (by omega)]
      rw [this, zf_self]
    rw [e0] at key1
    refine ⟨_, key1, ⟨fun j hj => ?_, ?_⟩, zso_zf (fun x hx j hj => ?_)⟩
    · show (zf M 107 _).2.1 107 (17 * s + j) = _
      rw [zf_at]
      unfold y_lo
      rw [if_pos (by omega), show 17 * s + j - 17 * s = j by omega]
      exact h.1 j hj
    · rw [zf_at]
      unfold y_lo
      rw [if_pos (by omega), show 17 * s + 16 - 17 * s = 16 by omega]
      exact h.2
    · unfold y_lo
      rw [if_neg (by omega)]
  · unfold b_X10_loads_2
    rw [zl17, if_neg (zi_nle (a := 17) (b := i) (by omega) (by omega)), zt_ycl.1, zt_tab, zi_mul, nI_add, zi_ldL (by omega) (by omega), zi_mul, nI_add, zi_stL (by omega) (by omega), zf_up, zf_ne (show (108 : Nat) ≠ 107 by omega), nI_1]
    congr 2
    funext j
    unfold zu y_lo
    by_cases c : j = 17 * s + i
    · rw [if_pos c, if_pos (by omega), show j - 17 * s = i by omega]
    · rw [if_neg c]
      by_cases d : 17 * s ≤ j ∧ j < 17 * s + i
      · rw [if_pos d, if_pos (by omega)]
      · rw [if_neg d, if_neg (by omega)]
  · unfold b_X10_loads_2
    rw [zl17, if_pos (nI_le (Nat.le_refl _) (by omega))]
def yCl (M : qv_Mem) : Prop := M.2.2 106 14 = nI 192 ∧ (∀ k, k < 192 → zS M 108 k (CL k)) ∧ (∀ g ∈ pgs, ∀ k, k < 192 → M.1 118 (7 * k + g) = nI (beh k g)) ∧ ∀ g ∈ pgs, ∀ k, k < 192 → M.1 119 (7 * k + g) = nI (lef k g)
theorem y_clifford {M : qv_Mem} {R : Nat → zq_T} (hC : zMR M R) (hR : zRk R) (hL : yCl M) (p : Int32) : f_X10_clifford qv_TT 106 p M = some (a_clifford R p) := by
  unfold f_X10_clifford a_clifford
  rcases zr_in p 4 with ⟨r, hr, r2, rfl⟩ | h
  · have e40 := (hR r hr).2
    rw [y_isReg hr, zbo, if_neg zl1n0, if_neg (zr_n hr r2), zi_cl r2, y_cliffordOf (Nat.le_refl _) (by omega) hL.1 hL.2.1 (hC r hr) ((hR r hr).1.b61 (by omega)) (by omega), zbo]
  · rw [y_isReg0 h, zbo, if_pos rfl, if_pos h]
theorem y_isNumber {M : qv_Mem} (hL : yCl M) {k : Nat} (hk : k < 192) : f_X10_isNumber qv_TT 106 (nI k) M = some 1 := by
  unfold f_X10_isNumber
  rw [zgS, hL.1, y_in hk (by omega) (by decide), zbo, z01a, zgd]
theorem y_isNumber0 {M : qv_Mem} (hL : yCl M) {p : Int32} (h : zr p 192) : f_X10_isNumber qv_TT 106 p M = some 0 := by
  unfold f_X10_isNumber
  rw [zgS, hL.1, y_in0 h (by decide), zbo, z01b, zgd]
theorem y_take {M : qv_Mem} {R : Nat → zq_T} (hC : zMR M R) (hK : zMC M) (hL : yCl M) (p q : Int32) : ∃ M1, f_X10_take qv_TT 106 p q M = some ((a_take R p q).1, M1) ∧ zMR M1 (a_take R p q).2 ∧ zMC M1 ∧ zfr zSM M M1 := by
  unfold f_X10_take a_take
  rcases zr_in p 4 with ⟨r, hr, r2, rfl⟩ | h
  · rw [y_isReg hr, zbo, if_neg zl1n0, if_neg (zr_n hr r2)]
    rcases zr_in q 192 with ⟨k, hk, k2, rfl⟩ | h
    · have hE := (cl_key hk).2.2
      rw [y_isNumber hL hk, zbo, if_neg zl1n0, if_neg (zr_n hk k2), zi_cl r2, zi_cl k2]
      obtain ⟨M1, e1, h1, k1⟩ := y_loads hk (show r < 20 by omega) (hL.2.1 k hk)
      rw [e1, zbo, y_eOf zt_tab (by omega) h1 (by omega), zbo]
      unfold a_settle
      rw [if_pos (by omega)]
      exact ⟨M1, rfl, hC.set h1 k1 (fun s _ q => q), hK.kept k1 (fun s _ _ => by omega), k1.fr⟩
    · rw [y_isNumber0 hL h, zbo, if_pos rfl, if_pos h]
      exact ⟨M, rfl, hC, hK, zfr.rf _ _⟩
  · rw [y_isReg0 h, zbo, if_pos rfl, if_pos h]
    exact ⟨M, rfl, hC, hK, zfr.rf _ _⟩
theorem a_take_k {R : Nat → zq_T} (hR : zRk R) (p q : Int32) : zRk (a_take R p q).2 := by
  unfold a_take
  rcases zr_in p 4 with ⟨r, hr, r2, rfl⟩ | h
  · rw [if_neg (zr_n hr r2)]
    rcases zr_in q 192 with ⟨k, hk, k2, rfl⟩ | h
    · rw [if_neg (zr_n hk k2), zi_cl k2]
      exact hR.settle (cl_ok k hk)
    · rw [if_pos h]; exact hR
  · rw [if_pos h]; exact hR
theorem y_isCl {g : Nat} (h : g ∈ pgs) : f_X10_isClifford (nI g) = some 1 := by
  unfold pgs at h
  simp at h
  rcases h with rfl | rfl | rfl | rfl | rfl <;> rfl
theorem y_isCl0 {p : Int32} (h : zr p 7 ∨ p = 1 ∨ p = 6) : f_X10_isClifford p = some 0 := by
  have d : ∀ u : Nat, u ∈ pgs → p ≠ nI u := fun u hu e => by
    have u7 := pgs_lt hu
    rcases h with h | h | h
    · exact zr_n (n := 7) u7 (by omega) (e ▸ h)
    · rw [e, zl1i] at h
      have := (nI_eq (by omega) (by omega)).mp h
      rw [this] at hu
      revert hu
      decide
    · rw [e, zl6] at h
      have := (nI_eq (by omega) (by omega)).mp h
      rw [this] at hu
      revert hu
      decide
  unfold f_X10_isClifford
  rw [zi_0, zl2i, zl3, zl4, zl5i, if_neg (d 0 (by decide)), if_neg (d 2 (by decide)), if_neg (d 3 (by decide)), if_neg (d 4 (by decide)), if_neg (d 5 (by decide))]
theorem y_leads {M : qv_Mem} (hL : yCl M) (p q : Int32) : f_X10_leads qv_TT 106 p q M = some (a_leads p q) := by
  unfold f_X10_leads a_leads
  rcases zr_in p 192 with ⟨k, hk, k2, rfl⟩ | h
  · rw [y_isNumber hL hk, zbo, if_neg zl1n0, if_neg (zr_n hk k2)]
    by_cases c : zr q 7 ∨ q = 1 ∨ q = 6
    · rw [y_isCl0 c, zbo, if_pos rfl, if_pos c]
    · rw [if_neg c]
      rcases zr_in q 7 with ⟨g, hg, g2, rfl⟩ | h
      · have gp : g ∈ pgs := pgs_of hg (fun e => c (Or.inr (Or.inl (by rw [e]; rfl)))) (fun e => c (Or.inr (Or.inr (by rw [e]; rfl))))
        rw [y_isCl gp, zbo, if_neg zl1n0, zt_ycl.2.1, zl7, zi_mul, nI_add, zi_ldI (by omega) (by omega), hL.2.2.1 g gp k hk, zi_cl k2, zi_cl g2]
      · exact absurd (Or.inl h) c
  · rw [y_isNumber0 hL h, zbo, if_pos rfl, if_pos h]
