/-! A row's gates applied one after another: the class. -/
def a_ar (l : List Nat) : Nat → Nat → zq_T → zq_T
  | 0, _, A => A
  | n + 1, i, A => a_ar l n (i + 1) (zq_lm A (zq_gt (l.getD i 0)))
theorem zi_min {a b : Nat} (ha : a < 2147483648) (hb : b < 2147483648) : (if nI a < nI b then nI a else nI b) = nI (min a b) := by
  by_cases h : a < b
  · rw [if_pos (nI_lt h hb), show min a b = a by omega]
  · rw [if_neg (nI_nlt (by omega) ha), show min a b = b by omega]
theorem w_ar_lp {T : List qv_Ent} {t p t1 p1 : Nat} (hp : qv_rf T t 0 = p) (hp1 : qv_rf T t1 0 = p1) (ht : t1 ≠ t) {l : List Nat} (hg : ∀ g ∈ l, g < 7) {b : Nat} (hb : b ≤ 60) : ∀ (n i f : Nat) (M : qv_Mem) (A : zq_T), i + n = min l.length b → n < f → zR M t1 p1 l → zT M t p A → zq_ok A → A.2 + n ≤ 100 → ∃ M1, qv_lp2 (b_X7_applyRow_17 t t1 (nI b) T (nI l.length) (fun M2 => some M2)) f (nI i) M = some M1 ∧ zT M1 t p (a_ar l n i A) ∧ zq_ok (a_ar l n i A) ∧ (a_ar l n i A).2 ≤ A.2 + n ∧ zo M M1 t p := by
  intro n
  induction n with
  | zero =>
    intro i f M A hi hf hR hA oA eA
    have h60 := hR.2.1
    obtain ⟨f, rfl⟩ : ∃ g, f = g + 1 := ⟨f - 1, by omega⟩
    rw [zN2]
    unfold b_X7_applyRow_17
    rw [zi_min (by omega) (by omega), if_pos (nI_le (by omega) (by omega))]
    exact ⟨M, rfl, hA, oA, Nat.le_refl _, zo.rf _ _ _⟩
  | succ n ih =>
    intro i f M A hi hf hR hA oA eA
    have h60 := hR.2.1
    obtain ⟨f, rfl⟩ : ∃ g, f = g + 1 := ⟨f - 1, by omega⟩
    rw [zN2]
    have ih1 := ih (i + 1) f
    generalize qv_lp2 (b_X7_applyRow_17 t t1 (nI b) T (nI l.length) (fun M2 => some M2)) f = rr at ih1 ⊢
    unfold b_X7_applyRow_17
    have g7 := zg_get hg i
    rw [zi_min (by omega) (by omega), if_neg (nI_ge (show i < min l.length b by omega) (by omega)), w_at hp1 hR (by omega), zbo]
    obtain ⟨M2, e2, h2, k2⟩ := z_behind hp hA oA.ls (zb_le (oA.bd 50 (by omega)) (by decide)) (by omega) g7
    have eg := zgt_e g7
    have e3 := zlm_e A (zq_gt (l.getD i 0))
    rw [e2, zbo, nI_1]
    have hR2 : zR M2 t1 p1 l := by
      unfold zR
      rw [k2.1, k2.2.2 t1 1 (fun q => ht q.1)]
      exact hR
    obtain ⟨M3, e4, h4, o4, e5, k4⟩ := ih1 M2 _ (by omega) (by omega) hR2 h2 (oA.mul (zq_ok.gt1 g7)) (by omega)
    refine ⟨M3, e4, h4, o4, ?_, k2.tr k4⟩
    show (a_ar l n (i + 1) (zq_lm A (zq_gt (l.getD i 0)))).2 ≤ A.2 + (n + 1)
    omega
theorem w_applyRow {T : List qv_Ent} {t p t1 p1 : Nat} (hp : qv_rf T t 0 = p) (hp1 : qv_rf T t1 0 = p1) (ht : t1 ≠ t) {l : List Nat} (hg : ∀ g ∈ l, g < 7) {a b : Nat} (hb : b ≤ 60) {M : qv_Mem} {A : zq_T} (hab : a ≤ min l.length b) (hR : zR M t1 p1 l) (hA : zT M t p A) (oA : zq_ok A) (eA : A.2 + (min l.length b - a) ≤ 100) : ∃ M1, f_X7_applyRow T t t1 (nI a) (nI b) M = some M1 ∧ zT M1 t p (a_ar l (min l.length b - a) a A) ∧ zq_ok (a_ar l (min l.length b - a) a A) ∧ (a_ar l (min l.length b - a) a A).2 ≤ A.2 + (min l.length b - a) ∧ zo M M1 t p := by
  have h60 := hR.2.1
  unfold f_X7_applyRow
  rw [zgS, hR.1, zjn, if_neg (nI_pos (by omega))]
  exact w_ar_lp hp hp1 ht hg hb _ a qv_N M A (by omega) (qv_N_gt _ (by omega)) hR hA oA eA
