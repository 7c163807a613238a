/-! write: the class's reader. -/
def pre : List (List Nat × Nat) → List Nat
  | [] => []
  | (c, _) :: lv => pre lv ++ c
def rwR (M : qv_Mem) (l : List Nat) : Prop := M.2.2 58 4 = nI l.length ∧ ∀ i, i < l.length → M.1 59 i = nI (l.getD i 0)
theorem gd_r (l x : List Nat) (i : Nat) : (l ++ x).getD (l.length + i) 0 = x.getD i 0 := by
  rw [List.getD_eq_getElem?_getD, List.getElem?_append_right (by omega), show l.length + i - l.length = i by omega, List.getD_eq_getElem?_getD]
theorem gd_l {l x : List Nat} {i : Nat} (h : i < l.length) : (l ++ x).getD i 0 = l.getD i 0 := by
  rw [List.getD_eq_getElem?_getD, List.getElem?_append_left h, List.getD_eq_getElem?_getD]
def zSt (M : qv_Mem) : List (List Nat × Nat) → Prop
  | [] => M.1 61 0 = nI 0
  | (c, t) :: lv => M.1 61 (lv.length + 1) = nI (pre ((c, t) :: lv)).length ∧ M.1 62 lv.length = nI t ∧ zSt M lv
theorem zSt_top {M : qv_Mem} : ∀ lv, zSt M lv → M.1 61 lv.length = nI (pre lv).length
  | [], h => h
  | (_, _) :: _, h => h.1
theorem zSt_cg {M M1 : qv_Mem} (h1 : M1.1 61 = M.1 61) (h2 : M1.1 62 = M.1 62) : ∀ lv, zSt M lv → zSt M1 lv
  | [], h => by
    show M1.1 61 0 = nI 0
    rw [h1]
    exact h
  | (c, t) :: lv, h => ⟨by rw [h1]; exact h.1, by rw [h2]; exact h.2.1, zSt_cg h1 h2 lv h.2.2⟩
def lvb (lv : List (List Nat × Nat)) : Prop := lv.length ≤ 4 ∧ ∀ x ∈ lv, x.1.length ≤ 60 ∧ x.2 ≤ 100
theorem pre_len : ∀ lv : List (List Nat × Nat), (∀ x ∈ lv, x.1.length ≤ 60 ∧ x.2 ≤ 100) → (pre lv).length ≤ 60 * lv.length
  | [], _ => Nat.le_refl _
  | (c, t) :: lv, h => by
    have a := pre_len lv (fun x hx => h x (List.mem_cons_of_mem _ hx))
    have b := (h (c, t) List.mem_cons_self).1
    have b2 : c.length ≤ 60 := b
    show (pre lv ++ c).length ≤ 60 * (lv.length + 1)
    rw [List.length_append]
    omega
theorem lvb.p {lv : List (List Nat × Nat)} (h : lvb lv) : (pre lv).length ≤ 240 := by
  have := pre_len lv h.2
  have := h.1
  omega
def zRd (M : qv_Mem) (lv : List (List Nat × Nat)) (c x : List Nat) (t : Nat) : Prop := rwR M (pre lv ++ c ++ x) ∧ M.2.2 58 5 = nI lv.length ∧ M.2.2 58 6 = nI t ∧ zSt M lv
def zSD (a : Nat) : Prop := 58 ≤ a ∧ a ≤ 62
theorem zt_rd : qv_rf qv_TT 58 0 = 59 ∧ qv_rf qv_TT 58 1 = 60 ∧ qv_rf qv_TT 58 2 = 61 ∧ qv_rf qv_TT 58 3 = 62 ∧ qv_rf qv_TT 0 5 = 58 := by decide +kernel
theorem x_held {M : qv_Mem} {lv : List (List Nat × Nat)} (hb : lvb lv) (h5 : M.2.2 58 5 = nI lv.length) (hs : zSt M lv) {a m : Nat} (ha : a ≤ 1000) (hm : m ≤ 10000) : f_X5_isHeld qv_TT 58 (nI ((pre lv).length + a)) (nI m) M = some (if a + m ≤ 60 then 1 else 0) := by
  have h4 := hb.1
  have hp := hb.p
  unfold f_X5_isHeld
  rw [zgS, h5, zt_rd.2.2.1, zi_ldI (by omega) (by omega), zSt_top lv hs, zi_sub (by omega) (by omega), nI_add, show (pre lv).length + a - (pre lv).length = a by omega, zl60]
  by_cases c : a + m ≤ 60
  · rw [if_neg (nI_nlt (by omega) (by omega)), if_pos c]
  · rw [if_pos (nI_lt (by omega) (by omega)), if_neg c]
theorem rw_snoc {M : qv_Mem} {l : List Nat} (h : rwR M l) (g : Nat) : rwR (qv_upS (qv_upI M 59 l.length (nI g)) 58 4 (nI (l.length + 1))) (l ++ [g]) := by
  refine ⟨?_, fun i hi => ?_⟩
  · rw [zs_at, List.length_append, List.length_singleton]
  · rw [List.length_append, List.length_singleton] at hi
    show (qv_upI M 59 l.length (nI g)).1 59 i = _
    rw [zup_at]
    by_cases e : i = l.length
    · rw [if_pos e, e]
      simp [List.getD_eq_getElem?_getD]
    · rw [if_neg e, h.2 i (by omega)]
      simp [List.getD_eq_getElem?_getD, List.getElem?_append, show i < l.length by omega]
theorem x_width : ∀ g, g < 7 → f_X5_widthOf (nI g) = some (nI (zq_inv1 g).length) := by decide +kernel
theorem x_tgate : ∀ g, g < 7 → ∀ j, j < (zq_inv1 g).length → f_X5_turnedGate (nI g) (nI j) = some (nI ((zq_inv1 g).getD j 0)) := by decide +kernel
theorem inv1_lt7 : ∀ g, g < 7 → (zq_inv1 g).length ≤ 7 ∧ ∀ j, j < (zq_inv1 g).length → (zq_inv1 g).getD j 0 < 7 := by decide +kernel
/-- what the reader's writing of its row leaves -/
def zrw (M N : qv_Mem) : Prop := N.2.1 = M.2.1 ∧ (∀ a, a ≠ 59 → N.1 a = M.1 a) ∧ ∀ a k, ¬ (a = 58 ∧ k = 4) → N.2.2 a k = M.2.2 a k
theorem zrw.rf (M : qv_Mem) : zrw M M := ⟨rfl, fun _ _ => rfl, fun _ _ _ => rfl⟩
theorem zrw.tr {M N Q : qv_Mem} (h : zrw M N) (k : zrw N Q) : zrw M Q := ⟨k.1.trans h.1, fun a ha => (k.2.1 a ha).trans (h.2.1 a ha), fun a b hb => (k.2.2 a b hb).trans (h.2.2 a b hb)⟩
theorem zrw_w (M : qv_Mem) (j : Nat) (v w : Int32) : zrw M (qv_upS (qv_upI M 59 j v) 58 4 w) := ⟨rfl, fun a ha => zup_ne ha, fun a k hk => zs_ne2 hk⟩
theorem zrw.fr {M N : qv_Mem} (h : zrw M N) : zfr zSD M N := ⟨fun a ha => h.2.1 a (fun e => ha (by rw [e]; unfold zSD; omega)), fun a _ => congrFun h.1 a, fun a ha => by funext k; exact h.2.2 a k (fun e => ha (by rw [e.1]; unfold zSD; omega))⟩
theorem take_snoc {l : List Nat} {j : Nat} (h : j < l.length) : l.take (j + 1) = l.take j ++ [l.getD j 0] := by
  rw [List.take_succ_eq_append_getElem h]
  congr 2
  simp [List.getD_eq_getElem?_getD, h]
theorem x_t102 {x : List Nat} {k : Nat} (hk : k < x.length) (hx : x.length ≤ 60) (hg : ∀ g ∈ x, g < 7) {M : qv_Mem} {l : List Nat} (hs : ∀ j, j < x.length → M.1 60 j = nI (x.getD j 0)) (hR : rwR M l) (hl : l.length + (zq_inv1 (x.getD k 0)).length ≤ 300) (kk : qv_Mem → Option (Int32 × qv_Mem)) : ∃ N, qv_lp2 (b_X5_turnOnce_102 58 qv_TT (nI k) (nI (zq_inv1 (x.getD k 0)).length) kk) qv_N 0 M = kk N ∧ rwR N (l ++ zq_inv1 (x.getD k 0)) ∧ zrw M N := by
  have g7 := zg_get hg k
  obtain ⟨w7, -⟩ := inv1_lt7 _ g7
  rw [zi_0]
  have key1 := zinv2 (b := b_X5_turnOnce_102 58 qv_TT (nI k) (nI (zq_inv1 (x.getD k 0)).length) kk) (k := kk) (fun j N => rwR N (l ++ (zq_inv1 (x.getD k 0)).take j) ∧ zrw M N) 0 (zq_inv1 (x.getD k 0)).length (by omega) (fun j N r _ hj hN => ?_) (fun N r _ => ?_) qv_N (qv_N_gt _ (by omega)) M ⟨by rw [List.take_zero, List.append_nil]; exact hR, zrw.rf _⟩
  · obtain ⟨N, ⟨a1, a2⟩, e⟩ := key1
    rw [List.take_length] at a1
    exact ⟨N, e, a1, a2⟩
  · obtain ⟨n1, n2⟩ := hN
    have ll : (l ++ (zq_inv1 (x.getD k 0)).take j).length = l.length + j := by rw [List.length_append, List.length_take]; omega
    have n4 : N.2.2 58 4 = nI (l.length + j) := by rw [n1.1, ll]
    have n60 : N.1 60 k = nI (x.getD k 0) := by rw [n2.2.1 60 (by omega)]; exact hs k hk
    unfold b_X5_turnOnce_102
    rw [if_neg (nI_ge hj (by omega)), zgS, n4, show (300 : Int32) = nI 300 from rfl, if_neg (zi_nle (a := 300) (b := l.length + j) (by omega) (by omega)), zgS, n4, zt_rd.2.1, zi_ldI (by omega) (by omega), n60, x_tgate _ g7 j hj, zbo, zt_rd.1, zi_stI (by omega) (by omega), zgS, zpS]
    have m4 : (qv_upI N 59 (l.length + j) (nI ((zq_inv1 (x.getD k 0)).getD j 0))).2.2 58 4 = nI (l.length + j) := n4
    rw [m4, nI_1, nI_1]
    have s := rw_snoc n1 ((zq_inv1 (x.getD k 0)).getD j 0)
    rw [ll, List.append_assoc, ← take_snoc hj] at s
    exact ⟨_, ⟨s, n2.tr (zrw_w _ _ _ _)⟩, rfl⟩
  · unfold b_X5_turnOnce_102
    rw [if_pos (nI_le (Nat.le_refl _) (by omega))]
theorem inv_drop {x : List Nat} {k : Nat} (h : k < x.length) : zq_inv (x.drop k) = zq_inv (x.drop (k + 1)) ++ zq_inv1 (x.getD k 0) := by
  rw [List.drop_eq_getElem_cons h]
  show zq_inv (x.drop (k + 1)) ++ zq_inv1 x[k] = _
  congr 2
  simp [List.getD_eq_getElem?_getD, h]
theorem x_t82 {x : List Nat} (hx : x.length ≤ 60) (hg : ∀ g ∈ x, g < 7) {l : List Nat} (hl : l.length + (zq_inv x).length ≤ 300) (kk : qv_Mem → Option (Int32 × qv_Mem)) : ∀ (k f : Nat) (M : qv_Mem), k ≤ x.length → k < f → (∀ j, j < x.length → M.1 60 j = nI (x.getD j 0)) → rwR M (l ++ zq_inv (x.drop k)) → ∃ N, qv_lp2 (b_X5_turnOnce_82 58 qv_TT kk) f (nI k - 1) M = kk N ∧ rwR N (l ++ zq_inv x) ∧ zrw M N := by
  intro k
  induction k with
  | zero =>
    intro f M hk hf hs hR
    obtain ⟨f, rfl⟩ : ∃ g, f = g + 1 := ⟨f - 1, by omega⟩
    rw [zN2]
    unfold b_X5_turnOnce_82
    rw [if_pos (by decide)]
    exact ⟨M, rfl, hR, zrw.rf _⟩
  | succ k ih =>
    intro f M hk hf hs hR
    obtain ⟨f, rfl⟩ : ∃ g, f = g + 1 := ⟨f - 1, by omega⟩
    rw [zN2]
    have ih1 := ih f
    generalize qv_lp2 (b_X5_turnOnce_82 58 qv_TT kk) f = rr at ih1 ⊢
    have g7 := zg_get hg k
    have e := inv_drop (show k < x.length by omega)
    have lt : (zq_inv (x.drop k)).length ≤ (zq_inv x).length := by
      have : ∀ (y : List Nat) (n : Nat), (zq_inv (y.drop n)).length ≤ (zq_inv y).length := by
        intro y n
        induction n generalizing y with
        | zero => rw [List.drop_zero]; exact Nat.le_refl _
        | succ n ih =>
          cases y with
          | nil => exact Nat.le_refl _
          | cons a y =>
            show (zq_inv (y.drop n)).length ≤ (zq_inv y ++ zq_inv1 a).length
            rw [List.length_append]
            have := ih y
            omega
      exact this x k
    rw [e, List.length_append] at lt
    obtain ⟨N, e1, h1, k1⟩ := x_t102 (show k < x.length by omega) hx hg hs hR (by rw [List.length_append]; omega) (fun (M14 : qv_Mem) => rr (nI k + (-1)) M14)
    rw [List.append_assoc, ← e] at h1
    obtain ⟨N2, e2, h2, k2⟩ := ih1 N (by omega) (by omega) (fun j hj => by rw [k1.2.1 60 (by omega)]; exact hs j hj) h1
    refine ⟨N2, ?_, h2, k1.tr k2⟩
    unfold b_X5_turnOnce_82
    rw [zi_ps, if_neg (nI_pos (by omega)), zt_rd.2.1, zi_ldI (by omega) (by omega), hs k (by omega), x_width _ g7, zbo, zjn, e1, zi_m1', e2]
def wsm (x : List Nat) : Nat → Nat
  | 0 => 0
  | i + 1 => wsm x i + (zq_inv1 (x.getD i 0)).length
theorem wsm_cg {x y : List Nat} : ∀ i, (∀ j, j < i → x.getD j 0 = y.getD j 0) → wsm x i = wsm y i
  | 0, _ => rfl
  | i + 1, h => by
    show wsm x i + _ = wsm y i + _
    rw [wsm_cg i (fun j hj => h j (by omega)), h i (by omega)]
theorem inv_app (x : List Nat) (g : Nat) : (zq_inv (x ++ [g])).length = (zq_inv x).length + (zq_inv1 g).length := by
  induction x with
  | nil =>
    show (zq_inv [] ++ zq_inv1 g).length = _
    rw [List.length_append]
  | cons a x ih =>
    show (zq_inv (x ++ [g]) ++ zq_inv1 a).length = (zq_inv x ++ zq_inv1 a).length + _
    rw [List.length_append, List.length_append, ih]
    omega
theorem wsm_len (x : List Nat) : ∀ i, i ≤ x.length → wsm x i = (zq_inv (x.take i)).length
  | 0, _ => rfl
  | i + 1, h => by
    show wsm x i + _ = _
    rw [wsm_len x i (by omega), take_snoc (by omega), inv_app]
theorem x_turnOnce {M : qv_Mem} {lv : List (List Nat × Nat)} {c x : List Nat} {t : Nat} (hb : lvb lv) (h : zRd M lv c x t) (hcx : c.length + x.length ≤ 60) (hg : ∀ g ∈ x, g < 7) : ∃ N, zfr zSD M N ∧ (c.length + (zq_inv x).length ≤ 60 → f_X5_turnOnce qv_TT 58 (nI (pre lv ++ c).length) M = some (1, N) ∧ zRd N lv c (zq_inv x) t) ∧ (60 < c.length + (zq_inv x).length → f_X5_turnOnce qv_TT 58 (nI (pre lv ++ c).length) M = some (0, N)) := by
  obtain ⟨h1, h2, h3, h4⟩ := h
  have hp := hb.p
  have hL : (pre lv ++ c ++ x).length = (pre lv ++ c).length + x.length := List.length_append
  have hL2 : (pre lv ++ c).length = (pre lv).length + c.length := List.length_append
  unfold f_X5_turnOnce
  rw [zgS, h1.1, hL, zi_sub (by omega) (by omega), show (pre lv ++ c).length + x.length - (pre lv ++ c).length = x.length by omega, zl60, if_pos (nI_le (by omega) (by omega)), zjn]
  have w7 : ∀ i, i < x.length → (zq_inv1 (x.getD i 0)).length ≤ 7 := fun i _ => (inv1_lt7 _ (zg_get hg i)).1
  have key1 := zinv3 (b := b_X5_turnOnce_20 58 (nI (pre lv ++ c).length) qv_TT (nI ((pre lv ++ c).length + x.length)) (fun (v2 : Int32) (M3 : qv_Mem) => qv_bo (f_X5_isHeld qv_TT 58 (nI (pre lv ++ c).length) v2 M3) (fun v5 => (if v5 = 0 then some (0, M3) else qv_pS 58 4 (nI (pre lv ++ c).length) M3 (fun M6 => qv_jn (fun (M7 : qv_Mem) => some (1, M7)) (fun k8 => qv_lp2 (b_X5_turnOnce_82 58 qv_TT k8) qv_N (nI x.length - 1) M6)))))) (k := (fun (v2 : Int32) (M3 : qv_Mem) => qv_bo (f_X5_isHeld qv_TT 58 (nI (pre lv ++ c).length) v2 M3) (fun v5 => (if v5 = 0 then some (0, M3) else qv_pS 58 4 (nI (pre lv ++ c).length) M3 (fun M6 => qv_jn (fun (M7 : qv_Mem) => some (1, M7)) (fun k8 => qv_lp2 (b_X5_turnOnce_82 58 qv_TT k8) qv_N (nI x.length - 1) M6)))))) (fun i v N => v = nI (wsm x i) ∧ (∀ j, j < i → N.1 60 j = nI (x.getD j 0)) ∧ N.2 = M.2 ∧ ∀ a, a ≠ 60 → N.1 a = M.1 a) 0 x.length (by omega) (fun i v N r _ hi hN => ?_) (fun v N r _ => ?_) qv_N (qv_N_gt _ (by omega)) 0 M ⟨rfl, fun j hj => by omega, rfl, fun _ _ => rfl⟩
  · obtain ⟨v, N, ⟨a1, a2, a3, a4⟩, e⟩ := key1
    have e0 : (nI 0) = (0 : Int32) := rfl
    rw [e0] at e
    rw [e, a1, wsm_len x x.length (Nat.le_refl _), List.take_length]
    have hS : zSt N lv := zSt_cg (a4 61 (by omega)) (a4 62 (by omega)) lv h4
    have N5 : N.2.2 58 5 = nI lv.length := by rw [a3]; exact h2
    have il : (zq_inv x).length ≤ 7 * 60 := by
      have : ∀ y : List Nat, (∀ g ∈ y, g < 7) → (zq_inv y).length ≤ 7 * y.length := by
        intro y
        induction y with
        | nil => intro _; exact Nat.le_refl _
        | cons a y ih =>
          intro hy
          have b := (inv1_lt7 a (hy a List.mem_cons_self)).1
          have d := ih (fun g hg => hy g (List.mem_cons_of_mem _ hg))
          show (zq_inv y ++ zq_inv1 a).length ≤ 7 * (y.length + 1)
          rw [List.length_append]
          omega
      have := this x hg
      omega
    have fN : zfr zSD M N := ⟨fun a ha => a4 a (fun e => ha (by rw [e]; unfold zSD; omega)), fun a _ => by rw [a3], fun a _ => by rw [a3]⟩
    rw [hL2, x_held hb N5 hS (by omega) (by omega), zbo]
    by_cases d : c.length + (zq_inv x).length ≤ 60
    · rw [if_pos d, if_neg zl1n0, zpS, zjn]
      have r0 : rwR (qv_upS N 58 4 (nI ((pre lv).length + c.length))) ((pre lv ++ c) ++ zq_inv (x.drop x.length)) := by
        rw [List.drop_length]
        show rwR _ ((pre lv ++ c) ++ [])
        rw [List.append_nil]
        refine ⟨by rw [zs_at, hL2], fun i hi => ?_⟩
        show N.1 59 i = _
        have := h1.2 i (by omega)
        rw [a4 59 (by omega), this, gd_l hi]
      obtain ⟨Q, e2, q1, q2⟩ := x_t82 (by omega) hg (l := pre lv ++ c) (by omega) (fun (M7 : qv_Mem) => some ((1 : Int32), M7)) x.length qv_N (qv_upS N 58 4 (nI ((pre lv).length + c.length))) (Nat.le_refl _) (qv_N_gt _ (by omega)) a2 r0
      have f4 : zfr zSD N (qv_upS N 58 4 (nI ((pre lv).length + c.length))) := ⟨fun _ _ => rfl, fun _ _ => rfl, fun a ha => zs_ne (fun e => ha (by rw [e]; unfold zSD; omega))⟩
      refine ⟨Q, (fN.tr f4).tr q2.fr, fun _ => ⟨e2, q1, ?_, ?_, ?_⟩, fun z => by omega⟩
      · rw [q2.2.2 58 5 (by omega), zs_ne2 (by omega)]; exact N5
      · rw [q2.2.2 58 6 (by omega), zs_ne2 (by omega), a3]; exact h3
      · exact zSt_cg (M := N) (show Q.1 61 = N.1 61 from q2.2.1 61 (by omega)) (show Q.1 62 = N.1 62 from q2.2.1 62 (by omega)) lv hS
    · rw [if_neg d, if_pos rfl]
      exact ⟨N, fN, fun z => by omega, fun _ => rfl⟩
  · obtain ⟨n1, n2, n3, n4⟩ := hN
    unfold b_X5_turnOnce_20
    have v59 : N.1 59 ((pre lv ++ c).length + i) = nI (x.getD i 0) := by
      rw [n4 59 (by omega), h1.2 _ (by omega), gd_r]
    rw [zi_sub (by omega) (by omega), show (pre lv ++ c).length + x.length - (pre lv ++ c).length = x.length by omega, if_neg (nI_ge hi (by omega)), zt_rd.1, zt_rd.2.1, nI_add, zi_ldI (by omega) (by omega), v59, zi_stI (by omega) (by omega), zi_ldI (by omega) (by omega), zup_at, if_pos rfl, x_width _ (zg_get hg i), zbo, nI_1, n1, nI_add]
    refine ⟨_, qv_upI N 60 i (nI (x.getD i 0)), ⟨rfl, fun j hj => ?_, n3, fun a ha => by rw [zup_ne ha]; exact n4 a ha⟩, rfl⟩
    rw [zup_at]
    split
    · rename_i e
      rw [e]
    · exact n2 j (by omega)
  · unfold b_X5_turnOnce_20
    rw [zi_sub (by omega) (by omega), show (pre lv ++ c).length + x.length - (pre lv ++ c).length = x.length by omega, if_pos (nI_le (Nat.le_refl _) (by omega))]
