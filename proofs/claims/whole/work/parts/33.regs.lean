/-! Registers, on both sides. -/
def zfr (S : Nat → Prop) (M M1 : qv_Mem) : Prop := (∀ a, ¬ S a → M1.1 a = M.1 a) ∧ (∀ a, ¬ S a → M1.2.1 a = M.2.1 a) ∧ ∀ a, ¬ S a → M1.2.2 a = M.2.2 a
theorem zfr.rf (S : Nat → Prop) (M : qv_Mem) : zfr S M M := ⟨fun _ _ => rfl, fun _ _ => rfl, fun _ _ => rfl⟩
theorem zfr.tr {S : Nat → Prop} {M M1 M2 : qv_Mem} (h : zfr S M M1) (k : zfr S M1 M2) : zfr S M M2 := ⟨fun a ha => (k.1 a ha).trans (h.1 a ha), fun a ha => (k.2.1 a ha).trans (h.2.1 a ha), fun a ha => (k.2.2 a ha).trans (h.2.2 a ha)⟩
theorem zfr.mono {S S1 : Nat → Prop} {M M1 : qv_Mem} (h : zfr S M M1) (k : ∀ a, S a → S1 a) : zfr S1 M M1 := ⟨fun a ha => h.1 a (fun q => ha (k a q)), fun a ha => h.2.1 a (fun q => ha (k a q)), fun a ha => h.2.2 a (fun q => ha (k a q))⟩
theorem zo.fr {M M1 : qv_Mem} {t p : Nat} (h : zo M M1 t p) : zfr (fun a => a = t ∨ a = p) M M1 := ⟨fun a _ => congrFun h.1 a, fun a ha => h.2.1 a (fun q => ha (Or.inr q)), fun a ha => by funext j; exact h.2.2 a j (fun q => ha (Or.inl q.1))⟩
theorem zso.fr {M M1 : qv_Mem} {q : Nat} {S : Nat → Prop} (h : zso M M1 q S) : zfr (fun a => a = q) M M1 := ⟨fun a _ => congrFun h.1 a, fun a ha => h.2.2.1 a ha, fun a _ => congrFun h.2.1 a⟩
theorem zT.fr {M M1 : qv_Mem} {t p : Nat} {A : zq_T} {S : Nat → Prop} (h : zT M t p A) (f : zfr S M M1) (ht : ¬ S t) (hp : ¬ S p) : zT M1 t p A := by
  unfold zT
  rw [f.2.1 p hp, f.2.2 t ht]
  exact h
theorem zS.fr {M M1 : qv_Mem} {q s : Nat} {A : zq_T} {S : Nat → Prop} (h : zS M q s A) (f : zfr S M M1) (hq : ¬ S q) : zS M1 q s A := by
  unfold zS
  rw [f.2.1 q hq]
  exact h
theorem zr_n {i n : Nat} (h : i < n) (hi : i < 2147483648) : ¬ zr (nI i) n := by
  unfold zr
  rw [nI_toInt hi]
  omega
/-- a register changed -/
def aset (R : Nat → zq_T) (r : Nat) (A : zq_T) : Nat → zq_T := fun i => if i = r then A else R i
def a_settle (R : Nat → zq_T) (r : Nat) (A : zq_T) : Int32 × (Nat → zq_T) := if A.2 ≤ 40 then (nI A.2, aset R r A) else (-5, R)
def zCR (M : qv_Mem) (R : Nat → zq_T) : Prop := ∀ r, r < 4 → zT M (5 + 2 * r) (6 + 2 * r) (R r)
def zRk (R : Nat → zq_T) : Prop := ∀ r, r < 4 → zq_ok (R r) ∧ (R r).2 ≤ 40
theorem zRk.bd {R : Nat → zq_T} (h : zRk R) {r : Nat} (hr : r < 4) : zb (R r).1 1048576 := (h r hr).1.bd 20 (by have := (h r hr).2; omega)
theorem zRk.settle {R : Nat → zq_T} (h : zRk R) {r : Nat} {A : zq_T} (hA : zq_ok A) : zRk (a_settle R r A).2 := by
  unfold a_settle
  split
  · rename_i hl
    intro i hi
    show zq_ok (if i = r then A else R i) ∧ (if i = r then A else R i).2 ≤ 40
    split
    · exact ⟨hA, hl⟩
    · exact h i hi
  · exact h
theorem zCR.set {M M1 : qv_Mem} {R : Nat → zq_T} {r : Nat} {A : zq_T} (h : zCR M R) (hA : zT M1 (5 + 2 * r) (6 + 2 * r) A) (k : zo M M1 (5 + 2 * r) (6 + 2 * r)) : zCR M1 (aset R r A) := by
  intro i hi
  show zT M1 _ _ (if i = r then A else R i)
  split
  · rename_i e
    rw [e]
    exact hA
  · exact (h i hi).fr k.fr (by omega) (by omega)
theorem zCR.fr {M M1 : qv_Mem} {R : Nat → zq_T} {S : Nat → Prop} (h : zCR M R) (k : zfr S M M1) (hS : ∀ a, 5 ≤ a → a ≤ 12 → ¬ S a) : zCR M1 R := fun i hi => (h i hi).fr k (hS _ (by omega) (by omega)) (hS _ (by omega) (by omega))
/-- the cells that a register's call writes -/
def zSR (a : Nat) : Prop := a = 98 ∨ a = 99 ∨ (5 ≤ a ∧ a ≤ 12)
theorem zl40 : (40 : Int32) = nI 40 := id rfl
theorem x_settle {M : qv_Mem} {R : Nat → zq_T} {r : Nat} {A : zq_T} (hC : zCR M R) (hr : r < 4) (hw : zT M 98 99 A) (eA : A.2 < 2147483648) : ∃ M1, f_X9_settleRegister qv_TT 0 (nI r) M = some ((a_settle R r A).1, M1) ∧ zCR M1 (a_settle R r A).2 ∧ zfr zSR M M1 := by
  unfold f_X9_settleRegister a_settle
  rw [zgS, zt_work, hw.2, zl40]
  by_cases hl : A.2 ≤ 40
  · rw [if_pos (show nI A.2 ≤ nI 40 from nI_le hl (by omega)), if_pos hl, zi_in hr (by omega), zgd, zt_r hr]
    obtain ⟨M1, e1, h1, k1⟩ := z_makeCopy (t := 5 + 2 * r) (zt_rl hr) zt_wk hw
    rw [e1, zbo, zgS]
    have hw1 : zT M1 98 99 A := hw.fr k1.fr (by omega) (by omega)
    rw [hw1.2]
    refine ⟨M1, rfl, hC.set h1 k1, k1.fr.mono (fun a ha => ?_)⟩
    unfold zSR
    omega
  · rw [if_neg (zi_nle (a := A.2) (b := 40) (by omega) eA), if_neg hl]
    exact ⟨M, rfl, hC, zfr.rf _ _⟩
def zq_Y : zq_T := (((0, 0, 0, 0), (0, 0, -1, 0), (0, 0, 1, 0), (0, 0, 0, 0)), 0)
def zMR (M : qv_Mem) (R : Nat → zq_T) : Prop := ∀ r, r < 4 → zS M 107 r (R r)
def zMC (M : qv_Mem) : Prop := (∀ g, g < 7 → zS M 107 (4 + g) (zq_gt g)) ∧ zS M 107 11 (zq_gt 3) ∧ zS M 107 12 zq_Y ∧ zS M 107 13 (zq_gt 4) ∧ zS M 107 14 zq_one
theorem zMC.kept {M M1 : qv_Mem} {S : Nat → Prop} (h : zMC M) (k : zso M M1 107 S) (hs : ∀ s, 4 ≤ s → s ≤ 14 → ¬ S s) : zMC M1 :=
  ⟨fun g hg => (h.1 g hg).kept k (hs _ (by omega) (by omega)), h.2.1.kept k (hs _ (by omega) (by omega)), h.2.2.1.kept k (hs _ (by omega) (by omega)), h.2.2.2.1.kept k (hs _ (by omega) (by omega)), h.2.2.2.2.kept k (hs _ (by omega) (by omega))⟩
theorem zMR.kept {M M1 : qv_Mem} {S : Nat → Prop} {R : Nat → zq_T} (h : zMR M R) (k : zso M M1 107 S) (hs : ∀ s, s < 4 → ¬ S s) : zMR M1 R := fun r hr => (h r hr).kept k (hs r hr)
theorem zMR.set {M M1 : qv_Mem} {R : Nat → zq_T} {r : Nat} {A : zq_T} {S : Nat → Prop} (h : zMR M R) (hA : zS M1 107 r A) (k : zso M M1 107 S) (hs : ∀ s, s < 4 → S s → s = r) : zMR M1 (aset R r A) := by
  intro i hi
  show zS M1 _ _ (if i = r then A else R i)
  split
  · rename_i e
    rw [e]
    exact hA
  · rename_i e
    exact (h i hi).kept k (fun q => e (hs i hi q))
def zSM (a : Nat) : Prop := a = 107
theorem zl15 : (15 : Int32) = nI 15 := id rfl
theorem y_settle {M : qv_Mem} {R : Nat → zq_T} {r : Nat} {A : zq_T} (hC : zMR M R) (hK : zMC M) (hr : r < 4) (hw : zS M 107 15 A) (eA : A.2 < 2147483648) : ∃ M1, f_X10_comes qv_TT 106 (nI r) M = some ((a_settle R r A).1, M1) ∧ zMR M1 (a_settle R r A).2 ∧ zMC M1 ∧ zfr zSM M M1 := by
  unfold f_X10_comes a_settle
  rw [zl15, y_eOf zt_tab (by omega) hw eA, zbo, zl40]
  by_cases hl : A.2 ≤ 40
  · rw [if_pos (show nI A.2 ≤ nI 40 from nI_le hl (by omega)), if_pos hl]
    obtain ⟨M1, e1, h1, k1⟩ := y_copies1 zt_tab M (a := 15) (b := r) (by omega) (by omega) hw
    rw [e1, zbo, y_eOf zt_tab (by omega) h1 eA, zbo]
    exact ⟨M1, rfl, hC.set h1 k1 (fun s _ q => q), hK.kept k1 (fun s _ _ => by omega), k1.fr⟩
  · rw [if_neg (zi_nle (a := A.2) (b := 40) (by omega) eA), if_neg hl]
    exact ⟨M, rfl, hC, hK, zfr.rf _ _⟩
/-! one -/
def a_one (R : Nat → zq_T) (p : Int32) : Int32 × (Nat → zq_T) := if zr p 4 then (-1, R) else (nI (R p.toNatClampNeg).2, aset R p.toNatClampNeg zq_one)
theorem x_one {M : qv_Mem} {R : Nat → zq_T} (hC : zCR M R) (p : Int32) : ∃ M1, f_X9_one qv_TT 0 p M = some ((a_one R p).1, M1) ∧ zCR M1 (a_one R p).2 ∧ zfr zSR M M1 := by
  unfold f_X9_one a_one
  rcases zr_in p 4 with ⟨r, hr, h2, rfl⟩ | h
  · rw [x_isReg hr, zbo, if_neg (show ¬ (1 : Int32) = 0 by decide), if_neg (zr_n hr h2), zi_in hr (by omega), zgd, zt_r hr, zgS, zgd, zi_cl h2]
    obtain ⟨M1, e1, h1, k1⟩ := z_makeUnit (t := 5 + 2 * r) (zt_rl hr) M
    rw [e1, zbo, (hC r hr).2]
    refine ⟨M1, rfl, hC.set h1 k1, k1.fr.mono (fun a ha => ?_)⟩
    unfold zSR
    omega
  · rw [x_isReg0 h, zbo, if_pos rfl, if_pos h]
    exact ⟨M, rfl, hC, zfr.rf _ _⟩
theorem zl14 : (14 : Int32) = nI 14 := id rfl
theorem y_one {M : qv_Mem} {R : Nat → zq_T} (hC : zMR M R) (hK : zMC M) (hR : zRk R) (p : Int32) : ∃ M1, f_X10_one qv_TT 106 p M = some ((a_one R p).1, M1) ∧ zMR M1 (a_one R p).2 ∧ zMC M1 ∧ zfr zSM M M1 := by
  unfold f_X10_one a_one
  rcases zr_in p 4 with ⟨r, hr, h2, rfl⟩ | h
  · have e40 := (hR r hr).2
    rw [y_isReg hr, zbo, if_neg (show ¬ (1 : Int32) = 0 by decide), if_neg (zr_n hr h2), zi_cl h2, y_eOf zt_tab (by omega) (hC r hr) (by omega), zbo, zl14]
    obtain ⟨M1, e1, h1, k1⟩ := y_copies1 zt_tab M (a := 14) (b := r) (by omega) (by omega) hK.2.2.2.2
    rw [e1, zbo]
    exact ⟨M1, rfl, hC.set h1 k1 (fun s _ q => q), hK.kept k1 (fun s _ _ => by omega), k1.fr⟩
  · rw [y_isReg0 h, zbo, if_pos rfl, if_pos h]
    exact ⟨M, rfl, hC, hK, zfr.rf _ _⟩
theorem a_one_k {R : Nat → zq_T} (hR : zRk R) (p : Int32) : zRk (a_one R p).2 := by
  unfold a_one
  split
  · exact hR
  · intro i hi
    show zq_ok (if i = p.toNatClampNeg then zq_one else R i) ∧ (if i = p.toNatClampNeg then zq_one else R i).2 ≤ 40
    split
    · exact ⟨zq_ok.one, by decide⟩
    · exact hR i hi
