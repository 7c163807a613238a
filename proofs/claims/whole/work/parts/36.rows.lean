/-! The class's rows. -/
def zui (F : Nat → Int32) (j : Nat) (v : Int32) : Nat → Int32 := fun i => if i = j then v else F i
def zgi (M : qv_Mem) (p : Nat) (F : Nat → Int32) : qv_Mem := (fun a j => if a = p then F j else M.1 a j, M.2.1, M.2.2)
theorem zgi_self (M : qv_Mem) (p : Nat) : zgi M p (M.1 p) = M := by
  unfold zgi
  apply Prod.ext
  · funext a j
    show (if a = p then M.1 p j else M.1 a j) = _
    split
    · rename_i h; rw [h]
    · rfl
  · rfl
theorem zgi_at (M : qv_Mem) (p : Nat) (F : Nat → Int32) (j : Nat) : (zgi M p F).1 p j = F j := by simp [zgi]
theorem zgi_ne {M : qv_Mem} {p a : Nat} {F : Nat → Int32} (h : a ≠ p) : (zgi M p F).1 a = M.1 a := by funext j; simp [zgi, h]
theorem zgi_up (M : qv_Mem) (p : Nat) (F : Nat → Int32) (j : Nat) (v : Int32) : qv_upI (zgi M p F) p j v = zgi M p (zui F j v) := by
  unfold qv_upI zgi zui
  simp only [Prod.mk.injEq, true_and, and_true]
  funext a b
  by_cases ha : a = p
  · by_cases hb : b = j
    · simp [ha, hb]
    · simp [ha, hb]
  · simp [ha]
theorem zgi_zgi (M : qv_Mem) (p : Nat) (F F2 : Nat → Int32) : zgi (zgi M p F) p F2 = zgi M p F2 := by
  unfold zgi
  simp only [Prod.mk.injEq, true_and, and_true]
  funext a j
  by_cases h : a = p
  · simp [h]
  · simp [h]
theorem zgi_s (M : qv_Mem) (p : Nat) (F : Nat → Int32) : (zgi M p F).2.2 = M.2.2 := rfl
theorem zgi_l (M : qv_Mem) (p : Nat) (F : Nat → Int32) : (zgi M p F).2.1 = M.2.1 := rfl
theorem zgi_u1 (M : qv_Mem) (p j : Nat) (v : Int32) : qv_upI M p j v = zgi M p (zui (M.1 p) j v) := by
  rw [← zgi_up, zgi_self]
def zR (M : qv_Mem) (t p : Nat) (l : List Nat) : Prop := M.2.2 t 1 = nI l.length ∧ l.length ≤ 60 ∧ ∀ i, i < l.length → M.1 p i = nI (l.getD i 0)
def zow (M M1 : qv_Mem) (t p : Nat) : Prop := M1.2.1 = M.2.1 ∧ (∀ a, a ≠ p → M1.1 a = M.1 a) ∧ ∀ a k, ¬ (a = t ∧ k = 1) → M1.2.2 a k = M.2.2 a k
theorem zow.rf (M : qv_Mem) (t p : Nat) : zow M M t p := ⟨rfl, fun _ _ => rfl, fun _ _ _ => rfl⟩
theorem zow.tr {M M1 M2 : qv_Mem} {t p : Nat} (h : zow M M1 t p) (k : zow M1 M2 t p) : zow M M2 t p := ⟨k.1.trans h.1, fun a ha => (k.2.1 a ha).trans (h.2.1 a ha), fun a j hj => (k.2.2 a j hj).trans (h.2.2 a j hj)⟩
theorem zow.fr {M M1 : qv_Mem} {t p : Nat} (h : zow M M1 t p) : zfr (fun a => a = t ∨ a = p) M M1 := ⟨fun a ha => h.2.1 a (fun q => ha (Or.inr q)), fun a _ => congrFun h.1 a, fun a ha => by funext j; exact h.2.2 a j (fun q => ha (Or.inl q.1))⟩
theorem zow_g (M : qv_Mem) (t p : Nat) (F : Nat → Int32) : zow M (zgi M p F) t p := ⟨rfl, fun a ha => zgi_ne ha, fun _ _ _ => rfl⟩
theorem zow_S (M : qv_Mem) (t p : Nat) (v : Int32) : zow M (qv_upS M t 1 v) t p := ⟨rfl, fun _ _ => rfl, fun a k h => zs_ne2 h⟩
theorem zR.fr {M M1 : qv_Mem} {t p : Nat} {l : List Nat} {S : Nat → Prop} (h : zR M t p l) (f : zfr S M M1) (ht : ¬ S t) (hp : ¬ S p) : zR M1 t p l := by
  unfold zR
  rw [f.1 p hp, f.2.2 t ht]
  exact h
theorem zR_mk {M : qv_Mem} {t p n : Nat} {F : Nat → Int32} {l : List Nat} (hn : l.length = n) (h60 : n ≤ 60) (hF : ∀ i, i < n → F i = nI (l.getD i 0)) : zR (qv_upS (zgi M p F) t 1 (nI n)) t p l := by
  refine ⟨?_, by omega, fun i hi => ?_⟩
  · rw [zs_at, hn]
  · show (zgi M p F).1 p i = _
    rw [zgi_at]
    exact hF i (by omega)
theorem zl60 : (60 : Int32) = nI 60 := id rfl
theorem zl1i : (1 : Int32) = nI 1 := id rfl
theorem z0c : (0 : Int32).toNatClampNeg = 0 := by decide
theorem z0nn : ¬ (0 : Int32) < 0 := by decide
theorem w_makeCopy {T : List qv_Ent} {t p t1 p1 : Nat} (hp : qv_rf T t 0 = p) (hp1 : qv_rf T t1 0 = p1) {M : qv_Mem} {l : List Nat} (h : zR M t1 p1 l) : ∃ M1, f_X6_makeCopy T t t1 M = some M1 ∧ zR M1 t p l ∧ zow M M1 t p := by
  have h60 := h.2.1
  refine ⟨qv_upS (zgi M p (fun j => va_cpy (M.1 p1) (M.1 p) 0 0 l.length j)) t 1 (nI l.length), ?_, ?_, (zow_g M t p _).tr (zow_S _ t p _)⟩
  · unfold f_X6_makeCopy qv_cc
    rw [zgS, h.1, zi_cl (by omega), z0c, if_pos ⟨z0nn, z0nn, nI_pos (by omega), by omega, by omega⟩, zjn, zgS, zpS, hp, hp1]
    have e : (qv_cpI M p1 p 0 0 l.length).2.2 t1 1 = nI l.length := h.1
    rw [e]
    rfl
  · refine zR_mk rfl h60 (fun i hi => ?_)
    show (if 0 ≤ i ∧ i < 0 + l.length then M.1 p1 (0 + (i - 0)) else M.1 p i) = _
    rw [if_pos (by omega), show 0 + (i - 0) = i by omega]
    exact h.2.2 i hi
theorem w_at {T : List qv_Ent} {t p : Nat} (hp : qv_rf T t 0 = p) {M : qv_Mem} {l : List Nat} (h : zR M t p l) {i : Nat} (hi : i < l.length) : f_X6_at T t (nI i) M = some (nI (l.getD i 0)) := by
  have h60 := h.2.1
  unfold f_X6_at
  rw [zgS, h.1, x_below hi (by omega), zbo, if_neg zl1n0, hp, zi_ldI (by omega) (by omega), h.2.2 i hi]
theorem w_at0 {T : List qv_Ent} {t p : Nat} {M : qv_Mem} {l : List Nat} (h : zR M t p l) {q : Int32} (hi : zr q l.length) : f_X6_at T t q M = some (-2) := by
  have h60 := h.2.1
  unfold f_X6_at
  rw [zgS, h.1, x_below0 hi (by omega), zbo, if_pos rfl]
theorem w_add {T : List qv_Ent} {t p : Nat} (hp : qv_rf T t 0 = p) {M : qv_Mem} {l : List Nat} (h : zR M t p l) (hl : l.length < 60) (g : Nat) : ∃ M1, f_X6_add T t (nI g) M = some (1, M1) ∧ zR M1 t p (l ++ [g]) ∧ zow M M1 t p := by
  refine ⟨qv_upS (zgi M p (zui (M.1 p) l.length (nI g))) t 1 (nI (l.length + 1)), ?_, ?_, (zow_g M t p _).tr (zow_S _ t p _)⟩
  · unfold f_X6_add
    rw [zgS, h.1, zl60, if_pos (nI_lt hl (by omega)), zgS, h.1, hp, zi_stI (by omega) (by omega), zgS, zpS, zgi_u1]
    have e : (zgi M p (zui (M.1 p) l.length (nI g))).2.2 t 1 = nI l.length := h.1
    rw [e, nI_1]
  · refine zR_mk (by rw [List.length_append]; rfl) (by omega) (fun i hi => ?_)
    unfold zui
    by_cases hi2 : i = l.length
    · rw [if_pos hi2, hi2]
      simp [List.getD_eq_getElem?_getD]
    · rw [if_neg hi2, h.2.2 i (by omega)]
      simp [List.getD_eq_getElem?_getD, List.getElem?_append, show i < l.length by omega]
theorem w_add0 {T : List qv_Ent} {t p : Nat} {M : qv_Mem} {l : List Nat} (h : zR M t p l) (hl : l.length = 60) (g : Int32) : f_X6_add T t g M = some (0, M) := by
  unfold f_X6_add
  rw [zgS, h.1, zl60, hl, if_neg (nI_nlt (Nat.le_refl 60) (by omega))]
def w_cf (F : Nat → Int32) (a m i : Nat) : Nat → Int32 := fun j => if a ≤ j ∧ j + m < i then F (j + m) else F j
theorem zi_sub {a b : Nat} (h : b ≤ a) (ha : a < 2147483648) : nI a - nI b = nI (a - b) := by
  have e : nI a = nI (a - b) + nI b := by rw [nI_add, show a - b + b = a by omega]
  rw [e, Int32.add_sub_cancel]
theorem w_cut {T : List qv_Ent} {t p : Nat} (hp : qv_rf T t 0 = p) {M : qv_Mem} {l : List Nat} (h : zR M t p l) {a m : Nat} (ham : a + m ≤ l.length) : ∃ M1, f_X6_cut T t (nI a) (nI m) M = some M1 ∧ zR M1 t p (l.take a ++ l.drop (a + m)) ∧ zow M M1 t p := by
  have h60 := h.2.1
  refine ⟨qv_upS (zgi M p (w_cf (M.1 p) a m l.length)) t 1 (nI (l.length - m)), ?_, ?_, (zow_g M t p _).tr (zow_S _ t p _)⟩
  · unfold f_X6_cut
    rw [if_neg (nI_pos (by omega)), if_neg (nI_pos (by omega)), zgS, h.1, nI_add, if_pos (nI_le ham (by omega)), zjn]
    have e0 : M = zgi M p (w_cf (M.1 p) a m (a + m)) := by
      have : w_cf (M.1 p) a m (a + m) = M.1 p := by
        funext j
        unfold w_cf
        rw [if_neg (by omega)]
      rw [this, zgi_self]
    have key := zfor2 (b := b_X6_cut_23 t (nI m) T (fun M2 => qv_gS t 1 M2 (fun v4 => qv_pS t 1 (v4 - nI m) M2 (fun M5 => some M5)))) (k := fun M2 => qv_gS t 1 M2 (fun v4 => qv_pS t 1 (v4 - nI m) M2 (fun M5 => some M5))) (fun i => zgi M p (w_cf (M.1 p) a m i)) (a + m) l.length ham (fun i r hi1 hi2 => ?_) (fun r => ?_) qv_N (qv_N_gt _ (by omega))
    · have key' : qv_lp2 (b_X6_cut_23 t (nI m) T (fun M2 => qv_gS t 1 M2 (fun v4 => qv_pS t 1 (v4 - nI m) M2 (fun M5 => some M5)))) qv_N (nI (a + m)) M = _ := (congrArg (fun N => qv_lp2 (b_X6_cut_23 t (nI m) T (fun M2 => qv_gS t 1 M2 (fun v4 => qv_pS t 1 (v4 - nI m) M2 (fun M5 => some M5)))) qv_N (nI (a + m)) N) e0).trans key
      rw [key', zgS, zpS, zgi_s, h.1, zi_sub (by omega) (by omega)]
    · unfold b_X6_cut_23
      dsimp only
      rw [zgS, zgi_s, h.1, if_neg (nI_ge hi2 (by omega)), hp, zi_ldI (by omega) (by omega), zi_sub (by omega) (by omega), zi_stI (by omega) (by omega), zgi_up, nI_1, zgi_at]
      congr 2
      funext j
      unfold zui w_cf
      by_cases hj : j = i - m
      · rw [if_pos hj, if_neg (by omega), if_pos (by omega), show j + m = i by omega]
      · rw [if_neg hj]
        by_cases hj2 : a ≤ j ∧ j + m < i
        · rw [if_pos hj2, if_pos (by omega)]
        · rw [if_neg hj2, if_neg (by omega)]
    · unfold b_X6_cut_23
      dsimp only
      rw [zgS, zgi_s, h.1, if_pos (nI_le (Nat.le_refl _) (by omega))]
  · refine zR_mk (by simp only [List.length_append, List.length_take, List.length_drop]; omega) (by omega) (fun i hi => ?_)
    unfold w_cf
    by_cases hi2 : a ≤ i
    · rw [if_pos (by omega), h.2.2 _ (by omega)]
      simp only [List.getD_eq_getElem?_getD, List.getElem?_append, List.length_take, List.getElem?_drop]
      rw [if_neg (by omega), show a + m + (i - min a l.length) = i + m by omega]
    · rw [if_neg (by omega), h.2.2 _ (by omega)]
      simp only [List.getD_eq_getElem?_getD, List.getElem?_append, List.length_take, List.getElem?_take]
      rw [if_pos (by omega), if_pos (by omega)]
