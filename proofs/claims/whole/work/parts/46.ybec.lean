/-! The reference: a word becomes what stands in the row. -/
def hE (A B C : Nat → Int32) (c : Nat) (x : Nat × List Nat) : Prop := A c = nI x.1 ∧ B c = nI x.2.length ∧ ∀ i, i < x.2.length → C (60 * c + i) = nI (x.2.getD i 0)
def hL (A B C : Nat → Int32) (Hs : List (Nat × List Nat)) : Prop := ∀ k, k < Hs.length → hE A B C (Hs.length - 1 - k) (hAt Hs k)
def yH (M : qv_Mem) (Hs : List (Nat × List Nat)) : Prop := M.2.2 106 22 = nI Hs.length ∧ Hs.length ≤ 8 ∧ hL (M.1 125) (M.1 124) (M.1 123) Hs
def yfr (M M1 : qv_Mem) : Prop := M1.2.1 = M.2.1 ∧ (∀ a, (a < 112 ∨ 125 < a ∨ (113 < a ∧ a < 122)) → M1.1 a = M.1 a) ∧ ∀ a k, ¬ (a = 106 ∧ (k = 18 ∨ k = 22)) → M1.2.2 a k = M.2.2 a k
theorem yfr.rf (M : qv_Mem) : yfr M M := ⟨rfl, fun _ _ => rfl, fun _ _ _ => rfl⟩
theorem yfr.tr {M M1 M2 : qv_Mem} (h : yfr M M1) (k : yfr M1 M2) : yfr M M2 := ⟨k.1.trans h.1, fun a ha => (k.2.1 a ha).trans (h.2.1 a ha), fun a j hj => (k.2.2 a j hj).trans (h.2.2 a j hj)⟩
theorem yow.yf {M M1 : qv_Mem} (h : yow M M1) : yfr M M1 := ⟨h.1, fun a ha => h.2.1 a (by omega), fun a k hk => h.2.2 a k (fun q => hk ⟨q.1, Or.inl q.2⟩)⟩
theorem hL_drop {A B C : Nat → Int32} {Hs : List (Nat × List Nat)} (h8 : Hs.length = 8) (h60 : ∀ k, k < 8 → (hAt Hs k).2.length ≤ 60) (h : hL A B C Hs) : hL (h_s A 8) (h_s B 8) (h_t C 8) (Hs.take 7) := by
  intro k hk
  rw [List.length_take] at hk ⊢
  have e : hAt (Hs.take 7) k = hAt Hs k := by
    unfold hAt
    simp only [List.getD_eq_getElem?_getD, List.getElem?_take]
    rw [if_pos (by omega)]
  have c := h60 k (by omega)
  obtain ⟨a1, a2, a3⟩ := h k (by omega)
  rw [e]
  have ei : min 7 Hs.length - 1 - k + 1 = Hs.length - 1 - k := by omega
  refine ⟨?_, ?_, fun i hi => ?_⟩
  · unfold h_s
    rw [if_pos (by omega), ei]
    exact a1
  · unfold h_s
    rw [if_pos (by omega), ei]
    exact a2
  · unfold h_t
    rw [if_pos (by omega), show 60 * (min 7 Hs.length - 1 - k) + i + 60 = 60 * (Hs.length - 1 - k) + i by omega]
    exact a3 i hi
def h_cp (C G : Nat → Int32) (n w m : Nat) : Nat → Int32 := fun j => if 60 * n ≤ j ∧ j < 60 * n + m then G (60 * w + (j - 60 * n)) else C j
theorem hL_push {A B C G : Nat → Int32} {Hs : List (Nat × List Nat)} {w : Nat} {l : List Nat} (h60 : l.length ≤ 60) (h6 : ∀ k, k < Hs.length → (hAt Hs k).2.length ≤ 60) (h : hL A B C Hs) (hG : ∀ i, i < l.length → G (60 * w + i) = nI (l.getD i 0)) : hL (zui A Hs.length (nI w)) (zui B Hs.length (nI l.length)) (h_cp C G Hs.length w 60) ((w, l) :: Hs) := by
  intro k hk
  rw [List.length_cons] at hk ⊢
  cases k with
  | zero =>
    have e : hAt ((w, l) :: Hs) 0 = (w, l) := rfl
    rw [e, show Hs.length + 1 - 1 - 0 = Hs.length by omega]
    refine ⟨?_, ?_, fun i hi => ?_⟩
    · unfold zui; rw [if_pos rfl]
    · unfold zui; rw [if_pos rfl]
    · have hi' : i < l.length := hi
      unfold h_cp
      rw [if_pos (by omega), show 60 * Hs.length + i - 60 * Hs.length = i by omega]
      exact hG i hi
  | succ k =>
    have e : hAt ((w, l) :: Hs) (k + 1) = hAt Hs k := rfl
    have c := h6 k (by omega)
    obtain ⟨a1, a2, a3⟩ := h k (by omega)
    rw [e, show Hs.length + 1 - 1 - (k + 1) = Hs.length - 1 - k by omega]
    refine ⟨?_, ?_, fun i hi => ?_⟩
    · unfold zui; rw [if_neg (by omega)]; exact a1
    · unfold zui; rw [if_neg (by omega)]; exact a2
    · unfold h_cp; rw [if_neg (by omega)]; exact a3 i hi
theorem y_b139 {N : qv_Mem} {A B C : Nat → Int32} {n w : Nat} (hn : n < 8) (hw : w < 3) (h22 : N.2.2 106 22 = nI n) (k : qv_Mem → Option (Int32 × qv_Mem)) : qv_lp2 (b_X10_becomes_139 106 (nI w) qv_TT k) qv_N (nI 0) (m3 N A B C) = k (m3 N A B (h_cp C (N.1 112) n w 60)) := by
  have e0 : h_cp C (N.1 112) n w 0 = C := by
    funext j
    unfold h_cp
    rw [if_neg (by omega)]
  have key := zfor2 (b := b_X10_becomes_139 106 (nI w) qv_TT k) (k := k) (fun i => m3 N A B (h_cp C (N.1 112) n w i)) 0 60 (by omega) (fun i r hi1 hi2 => ?_) (fun r => ?_) qv_N (qv_N_gt _ (by omega))
  · rw [e0] at key
    exact key
  · unfold b_X10_becomes_139
    have e22 : (m3 N A B (h_cp C (N.1 112) n w i)).2.2 106 22 = nI n := h22
    rw [zl60, if_neg (zi_nle (a := 60) (b := i) (by omega) (by omega)), zgS, e22, zt_word, zt_was, zi_mul, nI_add, zi_ldI (by omega) (by omega), zi_mul, nI_add, zi_stI (by omega) (by omega), m3_uC, m3_ne (by omega), nI_1]
    congr 2
    funext j
    unfold zui h_cp
    by_cases hj : j = 60 * n + i
    · rw [if_pos hj, if_pos (by omega), show j - 60 * n = i by omega]
    · rw [if_neg hj]
      by_cases hj2 : 60 * n ≤ j ∧ j < 60 * n + i
      · rw [if_pos hj2, if_pos (by omega)]
      · rw [if_neg hj2, if_neg (by omega)]
  · unfold b_X10_becomes_139
    rw [zl60, if_pos (nI_le (Nat.le_refl _) (by omega))]
def h_w (F G : Nat → Int32) (w m : Nat) : Nat → Int32 := fun j => if 60 * w ≤ j ∧ j < 60 * w + m then G (j - 60 * w) else F j
theorem y_b198 {P : qv_Mem} {w n : Nat} (hw : w < 3) (hn : n ≤ 60) (h18 : P.2.2 106 18 = nI n) (k : qv_Mem → Option (Int32 × qv_Mem)) : qv_lp2 (b_X10_becomes_198 106 (nI w) qv_TT k) qv_N (nI 0) P = k (zgi P 112 (h_w (P.1 112) (P.1 122) w n)) := by
  have e0 : P = zgi P 112 (h_w (P.1 112) (P.1 122) w 0) := by
    have : h_w (P.1 112) (P.1 122) w 0 = P.1 112 := by
      funext j
      unfold h_w
      rw [if_neg (by omega)]
    rw [this, zgi_self]
  have key := zfor2 (b := b_X10_becomes_198 106 (nI w) qv_TT k) (k := k) (fun i => zgi P 112 (h_w (P.1 112) (P.1 122) w i)) 0 n (Nat.zero_le _) (fun i r hi1 hi2 => ?_) (fun r => ?_) qv_N (qv_N_gt _ (by omega))
  · exact (congrArg (fun N => qv_lp2 (b_X10_becomes_198 106 (nI w) qv_TT k) qv_N (nI 0) N) e0).trans key
  · unfold b_X10_becomes_198
    rw [zgS, zgi_s, h18, if_neg (nI_ge hi2 (by omega)), zt_row, zt_word, zi_ldI (by omega) (by omega), zl60, zi_mul, nI_add, zi_stI (by omega) (by omega), zgi_up, nI_1, zgi_ne (show (122 : Nat) ≠ 112 by omega)]
    congr 2
    funext j
    unfold zui h_w
    by_cases hj : j = 60 * w + i
    · rw [if_pos hj, if_pos (by omega), show j - 60 * w = i by omega]
    · rw [if_neg hj]
      by_cases hj2 : 60 * w ≤ j ∧ j < 60 * w + i
      · rw [if_pos hj2, if_pos (by omega)]
      · rw [if_neg hj2, if_neg (by omega)]
  · unfold b_X10_becomes_198
    rw [zgS, zgi_s, h18, if_pos (nI_le (Nat.le_refl _) (by omega))]
