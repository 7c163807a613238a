/-! write: the reference. -/
def sv (v : Option (List Nat)) : Int32 := match v with
  | some _ => 0
  | none => 1
def yrv (M : qv_Mem) (m : Nat) (v : Option (List Nat)) : Prop := M.2.2 106 18 = nI m ∧ M.2.2 106 27 = sv v ∧ ∀ l, v = some l → l.length = m ∧ ∀ i, i < m → M.1 122 i = nI (l.getD i 0)
def yrf (M N : qv_Mem) : Prop := N.2.1 = M.2.1 ∧ (∀ a, a ≠ 122 → a ≠ 127 → N.1 a = M.1 a) ∧ ∀ a k, ¬ (a = 106 ∧ (k = 18 ∨ k = 25 ∨ k = 26 ∨ k = 27)) → N.2.2 a k = M.2.2 a k
theorem yrf.rf (M : qv_Mem) : yrf M M := ⟨rfl, fun _ _ _ => rfl, fun _ _ _ => rfl⟩
theorem yrf.tr {M N Q : qv_Mem} (h : yrf M N) (k : yrf N Q) : yrf M Q := ⟨k.1.trans h.1, fun a h1 h2 => (k.2.1 a h1 h2).trans (h.2.1 a h1 h2), fun a b hb => (k.2.2 a b hb).trans (h.2.2 a b hb)⟩
theorem yrf_s {M : qv_Mem} {k : Nat} {v : Int32} (h : k = 18 ∨ k = 25 ∨ k = 26 ∨ k = 27) : yrf M (qv_upS M 106 k v) := ⟨rfl, fun _ _ _ => rfl, fun a j hj => zs_ne2 (fun q => hj ⟨q.1, by rw [q.2]; exact h⟩)⟩
theorem yrf_u {M : qv_Mem} {c j : Nat} {v : Int32} (h : c = 122 ∨ c = 127) : yrf M (qv_upI M c j v) := ⟨rfl, fun a h1 h2 => zup_ne (by omega), fun _ _ _ => rfl⟩
theorem yTp.rf {M N : qv_Mem} {B : List Nat} (h : yTp M B) (k : yrf M N) : yTp N B := by
  unfold yTp
  rw [k.2.1 126 (by omega) (by omega), k.2.2 106 24 (by omega)]
  exact h
/-- place and open stand too -/
def yst (M : qv_Mem) (p o m : Nat) (v : Option (List Nat)) : Prop := M.2.2 106 25 = nI p ∧ M.2.2 106 26 = nI o ∧ yrv M m v
def zhr (B : List Nat) (p : Nat) : Int32 := if p < B.length then nI (hb B p) else -2
theorem y_here {M : qv_Mem} {B : List Nat} (hk : zBk B) (hT : yTp M B) {p : Nat} (hp : p ≤ 100) (h : M.2.2 106 25 = nI p) : f_X10_here qv_TT 106 M = some (zhr B p) := by
  have h80 := hk.1
  unfold f_X10_here zhr
  rw [zgS, h, zgS, hT.1]
  by_cases c : p < B.length
  · rw [if_neg (nI_ge c (by omega)), zgS, h, zt_ytp, zi_ldI (by omega) (by omega), hT.2.2 p c, if_pos c, (hb_in hk c).1]
  · rw [if_pos (nI_le (by omega) (by omega)), if_neg c]
theorem y_gby : ∀ b, b < 301 → f_X10_gateBy (nI b) = some (zsn (glt b)) := by decide +kernel
theorem y_gb {B : List Nat} (hk : zBk B) (p : Nat) : f_X10_gateBy (zhr B p) = some (zsn (glt (hb B p))) := by
  unfold zhr
  by_cases c : p < B.length
  · have := (hb_in hk c).2
    rw [if_pos c, y_gby _ (by omega)]
  · rw [if_neg c, hb_out (by omega)]
    decide +kernel
theorem zsn_2 (g : Nat) : (zsn g = -2) = ¬ g < 7 := by
  unfold zsn
  apply propext
  by_cases c : g < 7
  · rw [if_pos c]
    exact ⟨fun q => absurd q (zne_m2 g (by omega)), fun q => absurd c q⟩
  · rw [if_neg c]
    exact ⟨fun _ => c, fun _ => rfl⟩
theorem zhr_eq {B : List Nat} (hk : zBk B) (p : Nat) {b : Nat} (hb1 : b < 127) : (zhr B p = nI b) = (hb B p = b) := by
  unfold zhr
  apply propext
  by_cases c : p < B.length
  · have := (hb_in hk c).2
    rw [if_pos c]
    exact nI_eq (by omega) (by omega)
  · rw [if_neg c, hb_out (by omega)]
    exact ⟨fun q => absurd q.symm (zne_m2 b (by omega)), fun q => by omega⟩
theorem y_begins {M : qv_Mem} {B : List Nat} (hk : zBk B) (hT : yTp M B) {p o : Nat} (hp : p ≤ 100) (ho : o ≤ 4) (h : M.2.2 106 25 = nI p) (h2 : M.2.2 106 26 = nI o) : f_X10_begins qv_TT 106 M = some (if bgn B p o = true then 1 else 0) := by
  unfold f_X10_begins
  rw [y_here hk hT hp h, zbo, y_gb hk, zbo]
  by_cases c1 : glt (hb B p) < 7
  · rw [if_neg (by rw [zsn_2]; exact fun q => q c1), if_pos (by unfold bgn; simp [c1])]
  · rw [if_pos (by rw [zsn_2]; exact c1), zbo, zl126]
    by_cases c2 : hb B p = 126
    · rw [if_pos (by rw [zhr_eq hk p (by omega)]; exact c2), if_pos (by unfold bgn; simp [c2])]
    · rw [if_neg (by rw [zhr_eq hk p (by omega)]; exact c2), zbo, show (40 : Int32) = nI 40 from rfl]
      by_cases c3 : hb B p = 40
      · rw [if_pos (by rw [zhr_eq hk p (by omega)]; exact c3), zgS, h2, zl4]
        by_cases c4 : o < 4
        · rw [if_neg (zi_nle (a := 4) (b := o) (by omega) (by omega)), if_pos (by unfold bgn; simp [c3, c4])]
        · rw [if_pos (nI_le (by omega) (by omega)), if_neg (by unfold bgn; rw [c3]; simp [c4]; decide)]
      · rw [if_neg (by rw [zhr_eq hk p (by omega)]; exact c3), if_neg (by unfold bgn; simp [c1, c2, c3])]
def vpu (v : Option (List Nat)) (g : Nat) : Option (List Nat) := match v with
  | some l => some (l ++ [g])
  | none => none
def mpu (v : Option (List Nat)) (m : Nat) : Nat := match v with
  | some _ => m + 1
  | none => m
theorem y_puts {M : qv_Mem} {m : Nat} {v : Option (List Nat)} (h : yrv M m v) (hm : m < 590) (g : Nat) : ∃ N, f_X10_puts qv_TT 106 (nI g) M = some N ∧ yrv N (mpu v m) (vpu v g) ∧ yrf M N ∧ N.2.2 106 25 = M.2.2 106 25 ∧ N.2.2 106 26 = M.2.2 106 26 ∧ N.1 127 = M.1 127 := by
  obtain ⟨h1, h2, h3⟩ := h
  unfold f_X10_puts
  rw [zgS, h2]
  cases v with
  | none =>
    rw [if_neg (show ¬ sv none = 0 by decide)]
    exact ⟨M, rfl, ⟨h1, h2, h3⟩, yrf.rf _, rfl, rfl, rfl⟩
  | some l =>
    obtain ⟨hl, hr⟩ := h3 l rfl
    rw [if_pos (show sv (some l) = 0 from rfl), zgS, h1, zt_row, zi_stI (by omega) (by omega), zgS, zpS]
    have e : (qv_upI M 122 m (nI g)).2.2 106 18 = nI m := h1
    rw [e, nI_1]
    refine ⟨_, rfl, ⟨zs_at _ _ _ _, by rw [zs_ne2 (by omega)]; exact h2, fun l2 hl2 => ?_⟩, (yrf_u (Or.inl rfl)).tr (yrf_s (Or.inl rfl)), by rw [zs_ne2 (by omega)]; rfl, by rw [zs_ne2 (by omega)]; rfl, ?_⟩
    · have e2 : l ++ [g] = l2 := Option.some.inj hl2
      rw [← e2]
      refine ⟨by rw [List.length_append, List.length_singleton, hl]; rfl, fun i hi => ?_⟩
      have hi2 : i < m + 1 := hi
      show (qv_upI M 122 m (nI g)).1 122 i = _
      rw [zup_at]
      by_cases w : i = m
      · rw [if_pos w, w, ← hl]
        have := gd_r l [g] 0
        rw [Nat.add_zero] at this
        rw [this]
        rfl
      · rw [if_neg w, hr i (by omega), gd_l (by omega)]
    · show (qv_upI M 122 m (nI g)).1 127 = _
      rw [zup_ne (by omega)]
def vap (v w : Option (List Nat)) : Option (List Nat) := match v, w with
  | some l, some x => some (l ++ x)
  | _, _ => none
/-- a list's gates put one after another -/
theorem y_pz (v : Option (List Nat)) (b : Int32) (hb2 : b = 0 ∨ b = 1) : qv_01 (sv v ||| b) = true ∧ (sv v ||| b) = (if b = 0 then sv v else 1) := by
  cases v with
  | none => rcases hb2 with rfl | rfl <;> decide
  | some l =>
    have e : sv (some l) = 0 := rfl
    rw [e]
    rcases hb2 with rfl | rfl <;> decide
theorem zpZx {α : Type} {id f : Nat} {v : Int32} {M : qv_Mem} {k : qv_Mem → Option α} (h : qv_01 v = true) : qv_pZ id f v M k = k (qv_upS M id f v) := by
  unfold qv_pZ
  rw [if_pos h]
theorem y_rv176 (g : Nat) (hg : g < 7) {M : qv_Mem} {m : Nat} {l : List Nat} (h : yrv M m (some l)) (hm : m + 6 < 590) (kk : qv_Mem → Option qv_Mem) : ∃ N, qv_lp2 (b_X10_reverses_176 106 qv_TT (nI g) kk) qv_N 1 M = kk N ∧ yrv N (if g = 5 then m + 6 else m) (some (if g = 5 then l ++ [5, 5, 5, 5, 5, 5] else l)) ∧ yrf M N ∧ N.2.2 106 25 = M.2.2 106 25 ∧ N.2.2 106 26 = M.2.2 106 26 ∧ N.1 127 = M.1 127 := by
  by_cases c : g = 5
  · rw [if_pos c, if_pos c, zl1i]
    have key1 := zinv2 (b := b_X10_reverses_176 106 qv_TT (nI g) kk) (k := kk) (fun i N => yrv N (m + (i - 1)) (some (l ++ (List.replicate (i - 1) 5))) ∧ yrf M N ∧ N.2.2 106 25 = M.2.2 106 25 ∧ N.2.2 106 26 = M.2.2 106 26 ∧ N.1 127 = M.1 127) 1 7 (by omega) (fun i N r h1 hi hN => ?_) (fun N r _ => ?_) qv_N (qv_N_gt _ (by omega)) M ⟨by rw [Nat.sub_self, Nat.add_zero]; show yrv M m (some (l ++ [])); rw [List.append_nil]; exact h, yrf.rf _, rfl, rfl, rfl⟩
    · obtain ⟨N, ⟨a1, a2, a3, a4, a5⟩, e⟩ := key1
      exact ⟨N, e, a1, a2, a3, a4, a5⟩
    · obtain ⟨n1, n2, n3, n4, n5⟩ := hN
      unfold b_X10_reverses_176
      obtain ⟨Q, e1, q1, q2, q3, q4, q5⟩ := y_puts n1 (by omega) 5
      rw [zl7, if_neg (zi_nle (a := 7) (b := i) (by omega) (by omega)), if_pos (by rw [c]; rfl), zl5i, e1, zbo, nI_1]
      refine ⟨Q, ⟨?_, n2.tr q2, q3.trans n3, q4.trans n4, q5.trans n5⟩, rfl⟩
      have e3 : mpu (some (l ++ List.replicate (i - 1) 5)) (m + (i - 1)) = m + (i + 1 - 1) := by show m + (i - 1) + 1 = _; omega
      have e4 : vpu (some (l ++ List.replicate (i - 1) 5)) 5 = some (l ++ List.replicate (i + 1 - 1) 5) := by
        show some ((l ++ List.replicate (i - 1) 5) ++ [5]) = _
        rw [List.append_assoc, show i + 1 - 1 = (i - 1) + 1 by omega, List.replicate_succ']
      rw [e3, e4] at q1
      exact q1
    · unfold b_X10_reverses_176
      rw [zl7, if_pos (nI_le (Nat.le_refl _) (by omega))]
  · rw [if_neg c, if_neg c]
    obtain ⟨F, hF⟩ : ∃ g, qv_N = g + 1 := ⟨qv_N - 1, by have := qv_N_gt 5 (by omega); omega⟩
    refine ⟨M, ?_, h, yrf.rf _, rfl, rfl, rfl⟩
    rw [hF, zN2]
    unfold b_X10_reverses_176
    rw [if_neg (show ¬ (7 : Int32) ≤ 1 by decide), zl5i, if_neg (fun z => c ((nI_eq (by omega) (by omega)).mp z))]
theorem zt_aside : qv_rf qv_TT 106 28 = 127 := by decide +kernel
theorem y_rv120 {x : List Nat} (hx : x.length ≤ 60) (hg : ∀ g ∈ x, g < 7) {l : List Nat} (hl : l.length + (zq_inv x).length ≤ 500) (kk : qv_Mem → Option qv_Mem) : ∀ (k f : Nat) (M : qv_Mem), k ≤ x.length → k < f → (∀ j, j < x.length → M.1 127 j = nI (x.getD j 0)) → yrv M (l ++ zq_inv (x.drop k)).length (some (l ++ zq_inv (x.drop k))) → ∃ N, qv_lp2 (b_X10_reverses_120 106 qv_TT kk) f (nI k - 1) M = kk N ∧ yrv N (l ++ zq_inv x).length (some (l ++ zq_inv x)) ∧ yrf M N ∧ N.2.2 106 25 = M.2.2 106 25 ∧ N.2.2 106 26 = M.2.2 106 26 := by
  intro k
  induction k with
  | zero =>
    intro f M hk hf hs hR
    obtain ⟨f, rfl⟩ : ∃ g, f = g + 1 := ⟨f - 1, by omega⟩
    rw [zN2]
    unfold b_X10_reverses_120
    rw [if_pos (by decide)]
    exact ⟨M, rfl, hR, yrf.rf _, rfl, rfl⟩
  | succ k ih =>
    intro f M hk hf hs hR
    obtain ⟨f, rfl⟩ : ∃ g, f = g + 1 := ⟨f - 1, by omega⟩
    rw [zN2]
    have ih1 := ih f
    generalize qv_lp2 (b_X10_reverses_120 106 qv_TT kk) f = rr at ih1 ⊢
    have g7 := zg_get hg k
    have e := inv_drop (show k < x.length by omega)
    have lt : (zq_inv (x.drop k)).length ≤ (zq_inv x).length := by
      have : ∀ (y : List Nat) (n : Nat), (zq_inv (y.drop n)).length ≤ (zq_inv y).length := by
        intro y n
        induction n generalizing y with
        | zero => rw [List.drop_zero]; exact Nat.le_refl _
        | succ n ih =>
          cases y with
          | nil => exact Nat.le_refl _
          | cons a y =>
            show (zq_inv (y.drop n)).length ≤ (zq_inv y ++ zq_inv1 a).length
            rw [List.length_append]
            have := ih y
            omega
      exact this x k
    have lt2 := lt
    rw [e, List.length_append] at lt2
    generalize hL : l ++ zq_inv (x.drop (k + 1)) = L at hR
    have LL : L.length + (zq_inv1 (x.getD k 0)).length = (l ++ zq_inv (x.drop k)).length := by rw [← hL, e, List.length_append, List.length_append, List.length_append]; omega
    have LL2 : L.length + (zq_inv1 (x.getD k 0)).length ≤ 500 := by rw [LL, List.length_append]; omega
    have fin : ∀ Q : qv_Mem, yrv Q (L ++ zq_inv1 (x.getD k 0)).length (some (L ++ zq_inv1 (x.getD k 0))) → yrf M Q → Q.2.2 106 25 = M.2.2 106 25 → Q.2.2 106 26 = M.2.2 106 26 → Q.1 127 = M.1 127 → ∃ N, rr (nI k + (-1)) Q = kk N ∧ yrv N (l ++ zq_inv x).length (some (l ++ zq_inv x)) ∧ yrf M N ∧ N.2.2 106 25 = M.2.2 106 25 ∧ N.2.2 106 26 = M.2.2 106 26 := by
      intro Q q1 q2 q3 q4 q5
      rw [← hL, List.append_assoc, ← e] at q1
      obtain ⟨N, e1, n1, n2, n3, n4⟩ := ih1 Q (by omega) (by omega) (fun j hj => by rw [q5]; exact hs j hj) q1
      rw [zi_m1']
      exact ⟨N, e1, n1, q2.tr n2, n3.trans q3, n4.trans q4⟩
    unfold b_X10_reverses_120
    rw [zi_ps, if_neg (nI_pos (by omega)), zt_aside, zi_ldI (by omega) (by omega), hs k (by omega), zjn]
    generalize x.getD k 0 = g at g7 fin LL LL2 ⊢
    have i5 : (zq_inv1 g).length = (if g = 5 then 7 else if g = 2 then 2 else 1) := by
      have : ∀ g, g < 7 → (zq_inv1 g).length = (if g = 5 then 7 else if g = 2 then 2 else 1) := by decide +kernel
      exact this g g7
    have st : ∀ h0 : Nat, zq_inv1 g = (if g = 5 then [h0, 5, 5, 5, 5, 5, 5] else if g = 2 then [h0, 4] else [h0]) → (∃ N, qv_bo (f_X10_puts qv_TT 106 (nI h0) M) (fun M19 => qv_jn (fun (M20 : qv_Mem) => qv_jn (fun (M22 : qv_Mem) => rr (nI k + (-1)) M22) (fun k23 => qv_lp2 (b_X10_reverses_176 106 qv_TT (nI g) k23) qv_N 1 M20)) (fun k21 => (if nI g = 2 then qv_bo (f_X10_puts qv_TT 106 4 M19) (fun M28 => k21 M28) else k21 M19))) = kk N ∧ yrv N (l ++ zq_inv x).length (some (l ++ zq_inv x)) ∧ yrf M N ∧ N.2.2 106 25 = M.2.2 106 25 ∧ N.2.2 106 26 = M.2.2 106 26) := by
      intro h0 hh
      obtain ⟨N1, e1, a1, a2, a3, a4, a5⟩ := y_puts hR (by omega) h0
      rw [e1, zbo, zjn]
      by_cases c2 : g = 2
      · obtain ⟨N2, e2, b1, b2, b3, b4, b5⟩ := y_puts a1 (show L.length + 1 < 590 by omega) 4
        obtain ⟨N3, e3, d1, d2, d3, d4, d5⟩ := y_rv176 g g7 b1 (show L.length + 1 + 1 + 6 < 590 by omega) (fun (M22 : qv_Mem) => rr (nI k + (-1)) M22)
        rw [if_pos (by rw [c2]; rfl), zl4, e2, zbo]
        dsimp only
        rw [zjn, e3]
        rw [if_neg (by omega), if_neg (by omega)] at d1
        refine fin N3 ?_ ((a2.tr b2).tr d2) (d3.trans (b3.trans a3)) (d4.trans (b4.trans a4)) (d5.trans (b5.trans a5))
        rw [hh, if_neg (by omega), if_pos c2]
        have q : (L ++ [h0]) ++ [4] = L ++ [h0, 4] := by rw [List.append_assoc]; rfl
        have d1' : yrv N3 (L.length + 1 + 1) (some ((L ++ [h0]) ++ [4])) := d1
        rw [q] at d1'
        rw [List.length_append]
        exact d1'
      · obtain ⟨N3, e3, d1, d2, d3, d4, d5⟩ := y_rv176 g g7 a1 (show L.length + 1 + 6 < 590 by omega) (fun (M22 : qv_Mem) => rr (nI k + (-1)) M22)
        rw [if_neg (by rw [zl2i]; exact fun z => c2 ((nI_eq (by omega) (by omega)).mp z))]
        dsimp only
        rw [zjn, e3]
        refine fin N3 ?_ (a2.tr d2) (d3.trans a3) (d4.trans a4) (d5.trans a5)
        by_cases c5 : g = 5
        · rw [if_pos c5, if_pos c5] at d1
          rw [hh, if_pos c5, List.length_append]
          have q : (L ++ [h0]) ++ [5, 5, 5, 5, 5, 5] = L ++ [h0, 5, 5, 5, 5, 5, 5] := by rw [List.append_assoc]; rfl
          have d1' : yrv N3 (L.length + 1 + 6) (some ((L ++ [h0]) ++ [5, 5, 5, 5, 5, 5])) := d1
          rw [q] at d1'
          exact d1'
        · rw [if_neg c5, if_neg c5] at d1
          rw [hh, if_neg c5, if_neg c2, List.length_append]
          exact d1
    match g, g7 with
    | 0, _ => exact st 0 rfl
    | 1, _ => exact st 6 rfl
    | 2, _ => exact st 2 rfl
    | 3, _ => exact st 3 rfl
    | 4, _ => exact st 4 rfl
    | 5, _ => exact st 5 rfl
    | 6, _ => exact st 1 rfl
    | g + 7, hg => omega
