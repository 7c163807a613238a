/-! image and restore, on both sides. -/
/-- a loop whose counter goes one by one, with what holds at each place -/
theorem zinv2 {α : Type} {b : (Int32 → qv_Mem → Option α) → Int32 → qv_Mem → Option α} {k : qv_Mem → Option α} (I : Nat → qv_Mem → Prop) (i0 e : Nat) (hie : i0 ≤ e) (hb : ∀ i M r, i0 ≤ i → i < e → I i M → ∃ M1, I (i + 1) M1 ∧ b r (nI i) M = r (nI (i + 1)) M1) (he : ∀ M r, I e M → b r (nI e) M = k M) (f : Nat) (hf : e - i0 < f) (M : qv_Mem) (h0 : I i0 M) : ∃ M1, I e M1 ∧ qv_lp2 b f (nI i0) M = k M1 := by
  have h : ∀ (f i : Nat) (M : qv_Mem), I i M → i0 ≤ i → i ≤ e → e - i < f → ∃ M1, I e M1 ∧ qv_lp2 b f (nI i) M = k M1 := by
    intro f
    induction f with
    | zero => intro i M _ _ _ h; omega
    | succ f ih =>
      intro i M hI h0 h1 h2
      rw [zN2]
      by_cases h : i < e
      · obtain ⟨M1, q1, q2⟩ := hb i M (qv_lp2 b f) h0 h hI
        rw [q2]
        exact ih (i + 1) M1 q1 (by omega) (by omega) (by omega)
      · have : i = e := by omega
        subst this
        exact ⟨M, hI, he M _ hI⟩
  exact h f i0 M h0 (Nat.le_refl _) hie hf
abbrev zBT : Type := (Nat → zq_T) × (Nat → List Nat) × (Nat → Nat)
def zB (M : qv_Mem) (b : Nat) (k : zBT) : Prop := (∀ r, r < 4 → zT M (b + 4 + 2 * r) (b + 5 + 2 * r) (k.1 r)) ∧ (∀ w, w < 3 → zR M (b + 12 + 2 * w) (b + 13 + 2 * w) (k.2.1 w)) ∧ ∀ g, g < 7 → M.1 (b + 3) g = nI (k.2.2 g)
theorem zB.fr {M M1 : qv_Mem} {b : Nat} {k : zBT} {S : Nat → Prop} (h : zB M b k) (f : zfr S M M1) (hS : ∀ a, b + 3 ≤ a → a ≤ b + 17 → ¬ S a) : zB M1 b k :=
  ⟨fun r hr => (h.1 r hr).fr f (hS _ (by omega) (by omega)) (hS _ (by omega) (by omega)), fun w hw => (h.2.1 w hw).fr f (hS _ (by omega) (by omega)) (hS _ (by omega) (by omega)), fun g hg => by rw [f.1 _ (hS _ (by omega) (by omega))]; exact h.2.2 g hg⟩
def zbc (b c : Nat) : Prop := (b = 1 ∧ c = 19) ∨ (b = 19 ∧ c = 1)
theorem zt_b0 : ∀ b, (b = 1 ∨ b = 19) → qv_rf qv_TT b 0 = b + 1 ∧ qv_rf qv_TT b 1 = b + 2 ∧ qv_rf qv_TT b 2 = b + 3 ∧ (∀ r, r < 4 → qv_rf qv_TT (b + 1) r = b + 4 + 2 * r ∧ qv_rf qv_TT (b + 4 + 2 * r) 0 = b + 5 + 2 * r) ∧ ∀ w, w < 3 → qv_rf qv_TT (b + 2) w = b + 12 + 2 * w ∧ qv_rf qv_TT (b + 12 + 2 * w) 0 = b + 13 + 2 * w := by
  intro b hb
  rcases hb with rfl | rfl
  · decide +kernel
  · decide +kernel
theorem x_bcopy {b c : Nat} (hbc : zbc b c) {M : qv_Mem} {k : zBT} (h : zB M c k) : ∃ M1, f_X0_makeCopy qv_TT b c M = some M1 ∧ zB M1 b k ∧ zfr (fun a => b + 3 ≤ a ∧ a ≤ b + 17) M M1 := by
  have tb := zt_b0 b (by unfold zbc at hbc; omega)
  have tc := zt_b0 c (by unfold zbc at hbc; omega)
  unfold zbc at hbc
  unfold f_X0_makeCopy
  rw [zjn, zi_0]
  have q1 := zinv2 (b := b_X0_makeCopy_2 b c qv_TT (fun M1 => qv_jn (fun (M3 : qv_Mem) => qv_cc 7 (nI 0) 7 (nI 0) 7 (qv_jn (qv_cpI M3 (qv_rf qv_TT c 2) (qv_rf qv_TT b 2) (nI 0 : Int32).toNatClampNeg (nI 0 : Int32).toNatClampNeg (7 : Int32).toNatClampNeg) fun M5 => some M5)) (fun k4 => qv_lp2 (b_X0_makeCopy_30 b c qv_TT k4) qv_N (nI 0) M1))) (k := (fun M1 => qv_jn (fun (M3 : qv_Mem) => qv_cc 7 (nI 0) 7 (nI 0) 7 (qv_jn (qv_cpI M3 (qv_rf qv_TT c 2) (qv_rf qv_TT b 2) (nI 0 : Int32).toNatClampNeg (nI 0 : Int32).toNatClampNeg (7 : Int32).toNatClampNeg) fun M5 => some M5)) (fun k4 => qv_lp2 (b_X0_makeCopy_30 b c qv_TT k4) qv_N (nI 0) M1))) (fun i N => (∀ r, r < i → zT N (b + 4 + 2 * r) (b + 5 + 2 * r) (k.1 r)) ∧ zfr (fun a => b + 3 ≤ a ∧ a ≤ b + 17) M N) 0 4 (by omega) (fun i N r _ hi hN => ?_) (fun N r _ => ?_) qv_N (qv_N_gt _ (by omega)) M ⟨fun r hr => by omega, zfr.rf _ _⟩
  · obtain ⟨M1, ⟨i1, f1⟩, e1⟩ := q1
    rw [e1, zjn]
    have q2 := zinv2 (b := b_X0_makeCopy_30 b c qv_TT (fun (M3 : qv_Mem) => qv_cc 7 (nI 0) 7 (nI 0) 7 (qv_jn (qv_cpI M3 (qv_rf qv_TT c 2) (qv_rf qv_TT b 2) (nI 0 : Int32).toNatClampNeg (nI 0 : Int32).toNatClampNeg (7 : Int32).toNatClampNeg) fun M5 => some M5))) (k := (fun (M3 : qv_Mem) => qv_cc 7 (nI 0) 7 (nI 0) 7 (qv_jn (qv_cpI M3 (qv_rf qv_TT c 2) (qv_rf qv_TT b 2) (nI 0 : Int32).toNatClampNeg (nI 0 : Int32).toNatClampNeg (7 : Int32).toNatClampNeg) fun M5 => some M5))) (fun i N => (∀ r, r < 4 → zT N (b + 4 + 2 * r) (b + 5 + 2 * r) (k.1 r)) ∧ (∀ w, w < i → zR N (b + 12 + 2 * w) (b + 13 + 2 * w) (k.2.1 w)) ∧ zfr (fun a => b + 3 ≤ a ∧ a ≤ b + 17) M N) 0 3 (by omega) (fun i N r _ hi hN => ?_) (fun N r _ => ?_) qv_N (qv_N_gt _ (by omega)) M1 ⟨i1, fun r hr => by omega, f1⟩
    · obtain ⟨M2, ⟨i2, j2, f2⟩, e2⟩ := q2
      rw [e2]
      have e7 : (7 : Int32).toNatClampNeg = 7 := by decide
      have e0 : (nI 0).toNatClampNeg = 0 := by decide
      have h2 := h.fr f2 (fun a _ _ => by omega)
      unfold qv_cc
      rw [e7, e0, if_pos (by decide), zjn, tb.2.2.1, tc.2.2.1]
      have f3 : zfr (fun a => a = b + 3) M2 (qv_cpI M2 (c + 3) (b + 3) 0 0 7) := ⟨fun a ha => by funext j; show (if a = b + 3 then _ else _) = _; rw [if_neg ha], fun _ _ => rfl, fun _ _ => rfl⟩
      refine ⟨_, rfl, ⟨fun r hr => (i2 r hr).fr f3 (by omega) (by omega), fun w hw => (j2 w hw).fr f3 (by omega) (by omega), fun g hg => ?_⟩, f2.tr (f3.mono (fun a ha => by omega))⟩
      show (if b + 3 = b + 3 then va_cpy (M2.1 (c + 3)) (M2.1 (b + 3)) 0 0 7 g else _) = _
      rw [if_pos rfl]
      unfold va_cpy
      rw [if_pos (by omega), show 0 + (g - 0) = g by omega]
      exact h2.2.2 g hg
    · obtain ⟨n1, n2, n3⟩ := hN
      unfold b_X0_makeCopy_30
      rw [zl3, if_neg (zi_nle (a := 3) (b := i) (by omega) (by omega)), zi_in hi (by omega), zgd, zgd, zi_cl (by omega), tb.2.1, tc.2.1, (tb.2.2.2.2 i hi).1, (tc.2.2.2.2 i hi).1]
      obtain ⟨N1, q1, q2, q3⟩ := w_makeCopy (t := b + 12 + 2 * i) (tb.2.2.2.2 i hi).2 (tc.2.2.2.2 i hi).2 ((h.fr n3 (fun a _ _ => by omega)).2.1 i hi)
      rw [q1, zbo, nI_1]
      refine ⟨N1, ⟨fun r hr => (n1 r hr).fr q3.fr (by omega) (by omega), fun w hw => ?_, n3.tr (q3.fr.mono (fun a ha => by omega))⟩, rfl⟩
      by_cases e : w = i
      · rw [e]; exact q2
      · exact (n2 w (by omega)).fr q3.fr (by omega) (by omega)
    · unfold b_X0_makeCopy_30
      rw [zl3, if_pos (nI_le (Nat.le_refl _) (by omega))]
  · obtain ⟨n1, n3⟩ := hN
    unfold b_X0_makeCopy_2
    rw [zl4, if_neg (zi_nle (a := 4) (b := i) (by omega) (by omega)), zi_in hi (by omega), zgd, zgd, zi_cl (by omega), tb.1, tc.1, (tb.2.2.2.1 i hi).1, (tc.2.2.2.1 i hi).1]
    obtain ⟨N1, q1, q2, q3⟩ := z_makeCopy (t := b + 4 + 2 * i) (tb.2.2.2.1 i hi).2 (tc.2.2.2.1 i hi).2 ((h.fr n3 (fun a _ _ => by omega)).1 i hi)
    rw [q1, zbo, nI_1]
    refine ⟨N1, ⟨fun r hr => ?_, n3.tr (q3.fr.mono (fun a ha => by omega))⟩, rfl⟩
    by_cases e : r = i
    · rw [e]; exact q2
    · exact (n1 r (by omega)).fr q3.fr (by omega) (by omega)
  · unfold b_X0_makeCopy_2
    rw [zl4, if_pos (nI_le (Nat.le_refl _) (by omega))]
def a_all (W : Nat → List Nat) : Nat → Nat
  | 0 => 0
  | n + 1 => a_all W n + (W n).length
theorem x_countGates {M : qv_Mem} {W : Nat → List Nat} (hW : zCW M W) : f_X0_countGates qv_TT 1 M = some (nI (a_all W 3)) := by
  unfold f_X0_countGates
  rw [zjn, zi_0]
  refine zfor2c (b := b_X0_countGates_13 1 M qv_TT (fun v1 => some v1)) (fun i => nI (a_all W i)) (fun i => nI i) 0 3 (by omega) (fun i r _ hi => ?_) (fun r => ?_) qv_N (qv_N_gt _ (by omega))
  · unfold b_X0_countGates_13
    dsimp only
    rw [zl3, if_neg (zi_nle (a := 3) (b := i) (by omega) (by omega)), zi_in hi (by omega), zgd, zt_wrds, zi_cl (by omega), zt_wrd hi, zgS, (hW i hi).1, nI_1, nI_add]
    rfl
  · unfold b_X0_countGates_13
    dsimp only
    rw [zl3, if_pos (nI_le (Nat.le_refl _) (by omega))]
def zKp (M : qv_Mem) (K : Option zBT) : Prop := match K with
  | none => M.2.2 0 2 = 0
  | some k => M.2.2 0 2 = 1 ∧ zB M 19 k
def zKk (K : Option zBT) : Prop := match K with
  | none => True
  | some k => zRk k.1 ∧ zWk k.2.1 ∧ zPk k.2.2
theorem zKp.fr {M M1 : qv_Mem} {K : Option zBT} {S : Nat → Prop} (h : zKp M K) (f : zfr S M M1) (h0 : ¬ S 0) (hS : ∀ a, 22 ≤ a → a ≤ 36 → ¬ S a) : zKp M1 K := by
  unfold zKp at h ⊢
  cases K with
  | none => rw [f.2.2 0 h0]; exact h
  | some k => exact ⟨by rw [f.2.2 0 h0]; exact h.1, h.2.fr f (fun a _ _ => hS a (by omega) (by omega))⟩
theorem zB_1 {M : qv_Mem} {R : Nat → zq_T} {W : Nat → List Nat} {P : Nat → Nat} (hR : zCR M R) (hW : zCW M W) (hP : zCP M P) : zB M 1 (R, W, P) :=
  ⟨fun r hr => by rw [show 1 + 4 + 2 * r = 5 + 2 * r by omega, show 1 + 5 + 2 * r = 6 + 2 * r by omega]; exact hR r hr, fun w hw => by rw [show 1 + 12 + 2 * w = 13 + 2 * w by omega, show 1 + 13 + 2 * w = 14 + 2 * w by omega]; exact hW w hw, hP⟩
theorem zB_1' {M : qv_Mem} {k : zBT} (h : zB M 1 k) : zCR M k.1 ∧ zCW M k.2.1 ∧ zCP M k.2.2 :=
  ⟨fun r hr => by have := h.1 r hr; rw [show 1 + 4 + 2 * r = 5 + 2 * r by omega, show 1 + 5 + 2 * r = 6 + 2 * r by omega] at this; exact this, fun w hw => by have := h.2.1 w hw; rw [show 1 + 12 + 2 * w = 13 + 2 * w by omega, show 1 + 13 + 2 * w = 14 + 2 * w by omega] at this; exact this, h.2.2⟩
theorem zt_pic : qv_rf qv_TT 0 1 = 19 := by decide +kernel
theorem x_image {M : qv_Mem} {R : Nat → zq_T} {W : Nat → List Nat} {P : Nat → Nat} (hR : zCR M R) (hW : zCW M W) (hP : zCP M P) : ∃ M1, f_X9_image qv_TT 0 M = some (nI (a_all W 3), M1) ∧ zKp M1 (some (R, W, P)) ∧ zfr (fun a => a = 0 ∨ (22 ≤ a ∧ a ≤ 36)) M M1 := by
  unfold f_X9_image
  rw [zt_pic, zt_bench]
  obtain ⟨M1, e1, h1, k1⟩ := x_bcopy (b := 19) (c := 1) (Or.inr ⟨rfl, rfl⟩) (zB_1 hR hW hP)
  have f2 : zfr (fun a => a = 0) M1 (qv_upS M1 0 2 1) := ⟨fun _ _ => rfl, fun _ _ => rfl, fun a ha => zs_ne ha⟩
  rw [e1, zbo]
  show ∃ M2, qv_bo (f_X0_countGates qv_TT 1 (qv_upS M1 0 2 1)) _ = _ ∧ _
  rw [x_countGates ((hW.fr k1 (fun a _ _ => by omega)).fr f2 (fun a _ _ => by omega)), zbo]
  exact ⟨_, rfl, ⟨zs_at _ _ _ _, h1.fr f2 (fun a _ _ => by omega)⟩, (k1.mono (fun a ha => by omega)).tr (f2.mono (fun a ha => by omega))⟩
def a_restI (K : Option zBT) : Int32 := match K with
  | none => -5
  | some k => nI (a_all k.2.1 3)
def a_rest (R : Nat → zq_T) (W : Nat → List Nat) (P : Nat → Nat) (K : Option zBT) : zBT := match K with
  | none => (R, W, P)
  | some k => k
def a_restH (Hs : List (Nat × List Nat)) (K : Option zBT) : List (Nat × List Nat) := match K with
  | none => Hs
  | some _ => []
theorem x_restore {M : qv_Mem} {R : Nat → zq_T} {W : Nat → List Nat} {P : Nat → Nat} {Hs : List (Nat × List Nat)} {K : Option zBT} (hR : zCR M R) (hW : zCW M W) (hP : zCP M P) (hH : zH M Hs) (hK : zKp M K) : ∃ M1, f_X9_restore qv_TT 0 M = some (a_restI K, M1) ∧ zCR M1 (a_rest R W P K).1 ∧ zCW M1 (a_rest R W P K).2.1 ∧ zCP M1 (a_rest R W P K).2.2 ∧ zH M1 (a_restH Hs K) ∧ zKp M1 K ∧ zfr (fun a => a = 37 ∨ (4 ≤ a ∧ a ≤ 18)) M M1 := by
  unfold f_X9_restore
  rw [zgS, zt_pic, zt_bench, zt_hist]
  cases K with
  | none =>
    rw [if_pos (show M.2.2 0 2 = 0 from hK)]
    exact ⟨M, rfl, hR, hW, hP, hH, hK, zfr.rf _ _⟩
  | some k =>
    obtain ⟨k0, k1⟩ := hK
    rw [k0, if_neg zl1n0]
    obtain ⟨M1, e1, h1, f1⟩ := x_bcopy (b := 1) (c := 19) (Or.inl ⟨rfl, rfl⟩) k1
    have f2 : zfr (fun a => a = 37) M1 (qv_upS M1 37 3 0) := ⟨fun _ _ => rfl, fun _ _ => rfl, fun a ha => zs_ne ha⟩
    have h2 := h1.fr f2 (fun a _ _ => by omega)
    obtain ⟨r1, r2, r3⟩ := zB_1' h2
    rw [e1, zbo, zpS, x_countGates r2, zbo]
    obtain ⟨nx, n1, n2, n3, n4, n5⟩ := hH
    refine ⟨_, rfl, r1, r2, r3, ⟨nx, n1, ?_, ?_, Nat.zero_le _, fun k hk => (by cases hk)⟩, ⟨?_, (k1.fr f1 (fun a _ _ => by omega)).fr f2 (fun a _ _ => by omega)⟩, (f1.mono (fun a ha => by omega)).tr (f2.mono (fun a ha => by omega))⟩
    · rw [zs_ne2 (by omega), f1.2.2 37 (by omega)]; exact n2
    · rw [zs_at]; rfl
    · rw [zs_ne (by omega), f1.2.2 0 (by omega)]; exact k0
/-! the reference -/
def cpi {β : Type} (A B : Nat → β) (n : Nat) : Nat → β := fun j => if j < n then A j else B j
theorem cpi_s {β : Type} (A B : Nat → β) (n : Nat) (f : Nat → β) (h : f = fun j => if j = n then A n else cpi A B n j) : f = cpi A B (n + 1) := by
  rw [h]
  funext j
  unfold cpi
  by_cases e : j = n
  · rw [if_pos e, if_pos (by omega), e]
  · rw [if_neg e]
    by_cases e2 : j < n
    · rw [if_pos e2, if_pos (by omega)]
    · rw [if_neg e2, if_neg (by omega)]
theorem cpi_0 {β : Type} (A B : Nat → β) : cpi A B 0 = B := by
  funext j
  unfold cpi
  rw [if_neg (by omega)]
theorem zl180 : (180 : Int32) = nI 180 := id rfl
theorem zl68 : (68 : Int32) = nI 68 := id rfl
theorem zt_kept : qv_rf qv_TT 106 2 = 109 := by decide +kernel
theorem zt_kprice : qv_rf qv_TT 106 4 = 111 := by decide +kernel
theorem zt_kword : qv_rf qv_TT 106 7 = 114 := by decide +kernel
theorem zt_ksize : qv_rf qv_TT 106 8 = 115 := by decide +kernel
theorem y_im2 (M : qv_Mem) (k : qv_Mem → Option (Int32 × qv_Mem)) : qv_lp2 (b_X10_image_2 106 qv_TT k) qv_N (nI 0) M = k (zf M 109 (cpi (M.2.1 107) (M.2.1 109) 68)) := by
  have key := zfor2 (b := b_X10_image_2 106 qv_TT k) (k := k) (fun i => zf M 109 (cpi (M.2.1 107) (M.2.1 109) i)) 0 68 (by omega) (fun i r hi1 hi2 => ?_) (fun r => ?_) qv_N (qv_N_gt _ (by omega))
  · rw [cpi_0, zf_self] at key
    exact key
  · unfold b_X10_image_2
    rw [zl68, if_neg (zi_nle (a := 68) (b := i) (by omega) (by omega)), zt_tab, zt_kept, zi_ldL (by omega) (by omega), zi_stL (by omega) (by omega), zf_up, nI_1, zf_ne (show (107 : Nat) ≠ 109 by omega)]
    congr 2
    exact cpi_s _ _ _ _ rfl
  · unfold b_X10_image_2
    rw [zl68, if_pos (nI_le (Nat.le_refl _) (by omega))]
theorem y_im28 (M : qv_Mem) (k : qv_Mem → Option (Int32 × qv_Mem)) : qv_lp2 (b_X10_image_28 106 qv_TT k) qv_N (nI 0) M = k (zgi M 114 (cpi (M.1 112) (M.1 114) 180)) := by
  have key := zfor2 (b := b_X10_image_28 106 qv_TT k) (k := k) (fun i => zgi M 114 (cpi (M.1 112) (M.1 114) i)) 0 180 (by omega) (fun i r hi1 hi2 => ?_) (fun r => ?_) qv_N (qv_N_gt _ (by omega))
  · rw [cpi_0, zgi_self] at key
    exact key
  · unfold b_X10_image_28
    rw [zl180, if_neg (zi_nle (a := 180) (b := i) (by omega) (by omega)), zt_word, zt_kword, zi_ldI (by omega) (by omega), zi_stI (by omega) (by omega), zgi_up, nI_1, zgi_ne (show (112 : Nat) ≠ 114 by omega)]
    congr 2
    exact cpi_s _ _ _ _ rfl
  · unfold b_X10_image_28
    rw [zl180, if_pos (nI_le (Nat.le_refl _) (by omega))]
theorem y_im55 (M : qv_Mem) (k : qv_Mem → Option (Int32 × qv_Mem)) : qv_lp2 (b_X10_image_55 106 qv_TT k) qv_N (nI 0) M = k (zgi M 115 (cpi (M.1 113) (M.1 115) 3)) := by
  have key := zfor2 (b := b_X10_image_55 106 qv_TT k) (k := k) (fun i => zgi M 115 (cpi (M.1 113) (M.1 115) i)) 0 3 (by omega) (fun i r hi1 hi2 => ?_) (fun r => ?_) qv_N (qv_N_gt _ (by omega))
  · rw [cpi_0, zgi_self] at key
    exact key
  · unfold b_X10_image_55
    rw [zl3, if_neg (zi_nle (a := 3) (b := i) (by omega) (by omega)), zt_size, zt_ksize, zi_ldI (by omega) (by omega), zi_stI (by omega) (by omega), zgi_up, nI_1, zgi_ne (show (113 : Nat) ≠ 115 by omega)]
    congr 2
    exact cpi_s _ _ _ _ rfl
  · unfold b_X10_image_55
    rw [zl3, if_pos (nI_le (Nat.le_refl _) (by omega))]
theorem y_im80 (M : qv_Mem) (k : qv_Mem → Option (Int32 × qv_Mem)) : qv_lp2 (b_X10_image_80 106 qv_TT k) qv_N (nI 0) M = k (zgi M 111 (cpi (M.1 110) (M.1 111) 7)) := by
  have key := zfor2 (b := b_X10_image_80 106 qv_TT k) (k := k) (fun i => zgi M 111 (cpi (M.1 110) (M.1 111) i)) 0 7 (by omega) (fun i r hi1 hi2 => ?_) (fun r => ?_) qv_N (qv_N_gt _ (by omega))
  · rw [cpi_0, zgi_self] at key
    exact key
  · unfold b_X10_image_80
    rw [zl7, if_neg (zi_nle (a := 7) (b := i) (by omega) (by omega)), zt_yprice, zt_kprice, zi_ldI (by omega) (by omega), zi_stI (by omega) (by omega), zgi_up, nI_1, zgi_ne (show (110 : Nat) ≠ 111 by omega)]
    congr 2
    exact cpi_s _ _ _ _ rfl
  · unfold b_X10_image_80
    rw [zl7, if_pos (nI_le (Nat.le_refl _) (by omega))]
theorem y_re12 (M : qv_Mem) (k : qv_Mem → Option (Int32 × qv_Mem)) : qv_lp2 (b_X10_restore_12 106 qv_TT k) qv_N (nI 0) M = k (zf M 107 (cpi (M.2.1 109) (M.2.1 107) 68)) := by
  have key := zfor2 (b := b_X10_restore_12 106 qv_TT k) (k := k) (fun i => zf M 107 (cpi (M.2.1 109) (M.2.1 107) i)) 0 68 (by omega) (fun i r hi1 hi2 => ?_) (fun r => ?_) qv_N (qv_N_gt _ (by omega))
  · rw [cpi_0, zf_self] at key
    exact key
  · unfold b_X10_restore_12
    rw [zl68, if_neg (zi_nle (a := 68) (b := i) (by omega) (by omega)), zt_kept, zt_tab, zi_ldL (by omega) (by omega), zi_stL (by omega) (by omega), zf_up, nI_1, zf_ne (show (109 : Nat) ≠ 107 by omega)]
    congr 2
    exact cpi_s _ _ _ _ rfl
  · unfold b_X10_restore_12
    rw [zl68, if_pos (nI_le (Nat.le_refl _) (by omega))]
theorem y_re38 (M : qv_Mem) (k : qv_Mem → Option (Int32 × qv_Mem)) : qv_lp2 (b_X10_restore_38 106 qv_TT k) qv_N (nI 0) M = k (zgi M 112 (cpi (M.1 114) (M.1 112) 180)) := by
  have key := zfor2 (b := b_X10_restore_38 106 qv_TT k) (k := k) (fun i => zgi M 112 (cpi (M.1 114) (M.1 112) i)) 0 180 (by omega) (fun i r hi1 hi2 => ?_) (fun r => ?_) qv_N (qv_N_gt _ (by omega))
  · rw [cpi_0, zgi_self] at key
    exact key
  · unfold b_X10_restore_38
    rw [zl180, if_neg (zi_nle (a := 180) (b := i) (by omega) (by omega)), zt_kword, zt_word, zi_ldI (by omega) (by omega), zi_stI (by omega) (by omega), zgi_up, nI_1, zgi_ne (show (114 : Nat) ≠ 112 by omega)]
    congr 2
    exact cpi_s _ _ _ _ rfl
  · unfold b_X10_restore_38
    rw [zl180, if_pos (nI_le (Nat.le_refl _) (by omega))]
theorem y_re65 (M : qv_Mem) (k : qv_Mem → Option (Int32 × qv_Mem)) : qv_lp2 (b_X10_restore_65 106 qv_TT k) qv_N (nI 0) M = k (zgi M 113 (cpi (M.1 115) (M.1 113) 3)) := by
  have key := zfor2 (b := b_X10_restore_65 106 qv_TT k) (k := k) (fun i => zgi M 113 (cpi (M.1 115) (M.1 113) i)) 0 3 (by omega) (fun i r hi1 hi2 => ?_) (fun r => ?_) qv_N (qv_N_gt _ (by omega))
  · rw [cpi_0, zgi_self] at key
    exact key
  · unfold b_X10_restore_65
    rw [zl3, if_neg (zi_nle (a := 3) (b := i) (by omega) (by omega)), zt_ksize, zt_size, zi_ldI (by omega) (by omega), zi_stI (by omega) (by omega), zgi_up, nI_1, zgi_ne (show (115 : Nat) ≠ 113 by omega)]
    congr 2
    exact cpi_s _ _ _ _ rfl
  · unfold b_X10_restore_65
    rw [zl3, if_pos (nI_le (Nat.le_refl _) (by omega))]
theorem y_re90 (M : qv_Mem) (k : qv_Mem → Option (Int32 × qv_Mem)) : qv_lp2 (b_X10_restore_90 106 qv_TT k) qv_N (nI 0) M = k (zgi M 110 (cpi (M.1 111) (M.1 110) 7)) := by
  have key := zfor2 (b := b_X10_restore_90 106 qv_TT k) (k := k) (fun i => zgi M 110 (cpi (M.1 111) (M.1 110) i)) 0 7 (by omega) (fun i r hi1 hi2 => ?_) (fun r => ?_) qv_N (qv_N_gt _ (by omega))
  · rw [cpi_0, zgi_self] at key
    exact key
  · unfold b_X10_restore_90
    rw [zl7, if_neg (zi_nle (a := 7) (b := i) (by omega) (by omega)), zt_kprice, zt_yprice, zi_ldI (by omega) (by omega), zi_stI (by omega) (by omega), zgi_up, nI_1, zgi_ne (show (111 : Nat) ≠ 110 by omega)]
    congr 2
    exact cpi_s _ _ _ _ rfl
  · unfold b_X10_restore_90
    rw [zl7, if_pos (nI_le (Nat.le_refl _) (by omega))]
