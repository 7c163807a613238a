/-! normal: the reference. -/
def ynf (M M1 : qv_Mem) : Prop := (∀ a, (a < 120 ∨ 122 < a) → M1.1 a = M.1 a) ∧ (∀ a, (a < 107 ∨ 117 < a ∨ (107 < a ∧ a < 116)) → M1.2.1 a = M.2.1 a) ∧ (∀ s, s < 15 → ∀ j, j < 17 → M1.2.1 107 (17 * s + j) = M.2.1 107 (17 * s + j)) ∧ ∀ a k, ¬ (a = 106 ∧ k = 18) → M1.2.2 a k = M.2.2 a k
theorem ynf.rf (M : qv_Mem) : ynf M M := ⟨fun _ _ => rfl, fun _ _ => rfl, fun _ _ _ _ => rfl, fun _ _ _ => rfl⟩
theorem ynf.tr {M M1 M2 : qv_Mem} (h : ynf M M1) (k : ynf M1 M2) : ynf M M2 := ⟨fun a ha => (k.1 a ha).trans (h.1 a ha), fun a ha => (k.2.1 a ha).trans (h.2.1 a ha), fun s hs j hj => (k.2.2.1 s hs j hj).trans (h.2.2.1 s hs j hj), fun a b hb => (k.2.2.2 a b hb).trans (h.2.2.2 a b hb)⟩
theorem zsc.nf {M M1 : qv_Mem} {S : Nat → Prop} (h : zsc M M1 S) (hS : ∀ s, S s → 15 ≤ s) : ynf M M1 := ⟨fun a _ => congrFun h.1 a, h.2.2.1, fun s hs => h.2.2.2 s (fun q => by have := hS s q; omega), fun a k _ => by rw [h.2.1]⟩
theorem zso.nf {M M1 : qv_Mem} {S : Nat → Prop} (h : zso M M1 107 S) (hS : ∀ s, S s → 15 ≤ s) : ynf M M1 := ⟨fun a _ => congrFun h.1 a, fun a ha => h.2.2.1 a (by omega), fun s hs => h.2.2.2 s (fun q => by have := hS s q; omega), fun a k _ => by rw [h.2.1]⟩
theorem yow.nf {M M1 : qv_Mem} (h : yow M M1) : ynf M M1 := ⟨fun a ha => h.2.1 a (by omega), fun a _ => congrFun h.1 a, fun _ _ _ _ => by rw [h.1], h.2.2⟩
theorem ycf.nf {M M1 : qv_Mem} (h : ycf M M1) : ynf M M1 := ⟨h.2.1, fun a _ => congrFun h.1 a, fun _ _ _ _ => by rw [h.1], h.2.2⟩
theorem ynf.slot {M M1 : qv_Mem} (h : ynf M M1) {s : Nat} (hs : s < 15) {A : zq_T} (q : zS M 107 s A) : zS M1 107 s A := by
  refine ⟨fun j hj => ?_, ?_⟩
  · show M1.2.1 107 (17 * s + j) = _
    rw [h.2.2.1 s hs j (by omega)]
    exact q.1 j hj
  · rw [h.2.2.1 s hs 16 (by omega)]
    exact q.2
theorem ynf.mc {M M1 : qv_Mem} (h : ynf M M1) (q : zMC M) : zMC M1 :=
  ⟨fun g hg => h.slot (by omega) (q.1 g hg), h.slot (by omega) q.2.1, h.slot (by omega) q.2.2.1, h.slot (by omega) q.2.2.2.1, h.slot (by omega) q.2.2.2.2⟩
theorem ynf.mr {M M1 : qv_Mem} {R : Nat → zq_T} (h : ynf M M1) (q : zMR M R) : zMR M1 R := fun r hr => h.slot (by omega) (q r hr)
theorem ynf.cl {M M1 : qv_Mem} (h : ynf M M1) (q : yCl M) : yCl M1 := by
  refine ⟨by rw [h.2.2.2 106 14 (by omega)]; exact q.1, fun k hk => ?_, fun g hg k hk => by rw [h.1 118 (by omega)]; exact q.2.2.1 g hg k hk, fun g hg k hk => by rw [h.1 119 (by omega)]; exact q.2.2.2 g hg k hk⟩
  have := q.2.1 k hk
  unfold zS at this ⊢
  rw [h.2.1 108 (by omega)]
  exact this
theorem ynf.p {M M1 : qv_Mem} {P : Nat → Nat} (h : ynf M M1) (q : yP M P) : yP M1 P := fun g hg => by rw [h.1 110 (by omega)]; exact q g hg
theorem yR_so {M M1 : qv_Mem} {S : Nat → Prop} {l : List Nat} (h : zso M M1 107 S) (q : yR M l) : yR M1 l := by
  unfold yR
  rw [h.1, h.2.1]
  exact q
theorem yR_sc {M M1 : qv_Mem} {S : Nat → Prop} {l : List Nat} (h : zsc M M1 S) (q : yR M l) : yR M1 l := by
  unfold yR
  rw [h.1, h.2.1]
  exact q
def gv (v : Nat) : Nat := if v = 2 then 2 else if v = 1 then 0 else 1
def rm : Nat → zq_T → zq_T
  | 0, A => A
  | v + 1, A => rm v (zq_lm (zq_ct (zq_gt (gv v))) A)
theorem ct1 : zq_ct (zq_gt 1) = zq_gt 6 := zq_dec (by decide +kernel)
theorem ct0 : zq_ct (zq_gt 0) = zq_gt 0 := zq_dec (by decide +kernel)
theorem rm_rem {i : Nat} (hi : i < 3) (A : zq_T) : rm (i + 1) A = rem i A := by
  match i, hi with
  | 0, _ =>
    show zq_lm (zq_ct (zq_gt 1)) A = zq_lm (zq_gt 6) A
    rw [ct1]
  | 1, _ =>
    show zq_lm (zq_ct (zq_gt 1)) (zq_lm (zq_ct (zq_gt 0)) A) = zq_lm (zq_gt 6) (zq_lm (zq_gt 0) A)
    rw [ct1, ct0]
  | 2, _ =>
    show zq_lm (zq_ct (zq_gt 1)) (zq_lm (zq_ct (zq_gt 0)) (zq_lm (zq_ct (zq_gt 2)) A)) = zq_lm (zq_gt 6) (zq_lm (zq_gt 0) (zq_lm (zq_ct (zq_gt 2)) A))
    rw [ct1, ct0]
  | i + 3, hi => omega
theorem zi_m1' (j : Nat) : nI j + (-1) = nI j - 1 := by
  generalize nI j = x
  grind
theorem gv_lt (v : Nat) : gv v < 7 := by
  unfold gv
  split
  · omega
  · split <;> omega
theorem y_il10 (k : qv_Mem → Option (Int32 × qv_Mem)) : ∀ (v f : Nat) (M : qv_Mem) (A : zq_T), v ≤ 3 → v < f → zS M 107 15 A → zMC M → zq_ok A → A.2 + v ≤ 90 → ∃ M1, qv_lp2 (b_X10_isLess_10 106 qv_TT k) f (nI v - 1) M = k M1 ∧ zS M1 107 15 (rm v A) ∧ (rm v A).2 ≤ A.2 + v ∧ zso M M1 107 (fun x => x = 15 ∨ x = 16 ∨ x = 19) := by
  intro v
  induction v with
  | zero =>
    intro f M A hv hf hA hK oA eA
    obtain ⟨f, rfl⟩ : ∃ g, f = g + 1 := ⟨f - 1, by omega⟩
    rw [zN2]
    unfold b_X10_isLess_10
    rw [if_pos (by decide)]
    exact ⟨M, rfl, hA, Nat.le_refl _, zso.rf _ _ _⟩
  | succ v ih =>
    intro f M A hv hf hA hK oA eA
    obtain ⟨f, rfl⟩ : ∃ g, f = g + 1 := ⟨f - 1, by omega⟩
    rw [zN2]
    have ih1 := ih f
    generalize qv_lp2 (b_X10_isLess_10 106 qv_TT k) f = rr at ih1 ⊢
    have g7 := gv_lt v
    have eg := zgt_e g7
    obtain ⟨M1, e1, h1, k1⟩ := y_turns zt_tab (c := 16) (a := 4 + gv v) (by omega) (by omega) (hK.1 _ g7) (by omega)
    have ec : (zq_ct (zq_gt (gv v))).2 = (zq_gt (gv v)).2 := rfl
    obtain ⟨M2, e2, h2, k2⟩ := y_product zt_tab (c := 15) (a := 16) (b := 15) (by omega) (by omega) (by omega) h1 (hA.kept k1 (by omega)) (by rw [ec]; omega) (by omega) (zb_pm2 (zq_ok.gt1 g7).ct oA (by rw [ec]; omega))
    have b := zlm_e (zq_ct (zq_gt (gv v))) A
    rw [ec] at b
    have k12 : zso M M2 107 (fun x => x = 15 ∨ x = 16 ∨ x = 19) := k1.tr k2 (fun s q => by omega) (fun s q => by omega)
    obtain ⟨M3, e3, h3, b3, k3⟩ := ih1 M2 (zq_lm (zq_ct (zq_gt (gv v))) A) (by omega) (by omega) h2 (hK.kept k12 (fun s _ _ => by omega)) ((zq_ok.gt1 g7).ct.mul oA) (by omega)
    refine ⟨M3, ?_, h3, Nat.le_trans b3 (by omega), k12.tr k3 (fun s q => q) (fun s q => q)⟩
    rw [← e3]
    unfold b_X10_isLess_10
    rw [zi_ps, if_neg (nI_pos (by omega)), zjn, zi_m1']
    have st : ∀ g : Nat, g = gv v → qv_bo (f_X10_turns qv_TT 106 (4 + nI g) 16 M) (fun M24 => qv_bo (f_X10_product qv_TT 106 15 16 15 M24) (fun M25 => rr (nI v - 1) M25)) = rr (nI v - 1) M2 := fun g hg => by
      rw [hg, zl_4a, zl16, e1, zbo, zl15, e2, zbo]
    match v, hv with
    | 0, _ => exact st 1 rfl
    | 1, _ => exact st 0 rfl
    | 2, _ => exact st 2 rfl
    | v + 3, hv => omega
def apg : Nat → List Nat → List Nat
  | 0, l => l
  | v + 1, l => if 60 < l.length then l else apg v (l ++ [gv v])
theorem y_il81 (k : qv_Mem → Option (Int32 × qv_Mem)) : ∀ (v f : Nat) (M : qv_Mem) (l : List Nat), v ≤ 3 → v < f → yR M l → l.length ≤ 100 → ∃ M1, qv_lp2 (b_X10_isLess_81 106 qv_TT k) f (nI v - 1) M = k M1 ∧ yR M1 (apg v l) ∧ yow M M1 := by
  intro v
  induction v with
  | zero =>
    intro f M l hv hf hR hl
    obtain ⟨f, rfl⟩ : ∃ g, f = g + 1 := ⟨f - 1, by omega⟩
    rw [zN2]
    unfold b_X10_isLess_81
    rw [if_pos (by decide)]
    exact ⟨M, rfl, hR, yow.rf _⟩
  | succ v ih =>
    intro f M l hv hf hR hl
    obtain ⟨f, rfl⟩ : ∃ g, f = g + 1 := ⟨f - 1, by omega⟩
    rw [zN2]
    have ih1 := ih f
    generalize qv_lp2 (b_X10_isLess_81 106 qv_TT k) f = rr at ih1 ⊢
    unfold b_X10_isLess_81 apg
    rw [zi_ps, if_neg (nI_pos (by omega)), zgS, hR.1, zl60]
    by_cases c : 60 < l.length
    · rw [if_pos (nI_lt c (by omega)), if_pos c]
      exact ⟨M, rfl, hR, yow.rf _⟩
    · rw [if_neg (nI_nlt (by omega) (by omega)), if_neg c, zgS, hR.1, zjn, zi_m1']
      have hN := yR_snoc hR (by omega) (gv v)
      have o : yow M (qv_upS (qv_upI M 122 l.length (nI (gv v))) 106 18 (nI (l.length + 1))) := (yow_u M _ _).tr (yow_S _ _)
      have st : ∀ g : Nat, g = gv v → qv_stI 600 (qv_rf qv_TT 106 17) (nI l.length) (nI g) M (fun M16 => qv_gS 106 18 M16 (fun v17 => qv_pS 106 18 (v17 + 1) M16 (fun M18 => rr (nI v - 1) M18))) = rr (nI v - 1) (qv_upS (qv_upI M 122 l.length (nI (gv v))) 106 18 (nI (l.length + 1))) := fun g hg => by
        rw [hg, zt_row, zi_stI (by omega) (by omega), zgS, zpS]
        have e18 : (qv_upI M 122 l.length (nI (gv v))).2.2 106 18 = nI l.length := hR.1
        rw [e18, nI_1]
      generalize qv_upS (qv_upI M 122 l.length (nI (gv v))) 106 18 (nI (l.length + 1)) = N at hN o st
      obtain ⟨M3, e3, h3, k3⟩ := ih1 N (l ++ [gv v]) (by omega) (by omega) hN (by rw [List.length_append, List.length_singleton]; omega)
      refine ⟨M3, ?_, h3, o.tr k3⟩
      rw [← e3]
      match v, hv with
      | 0, _ => exact st 1 rfl
      | 1, _ => exact st 0 rfl
      | 2, _ => exact st 2 rfl
      | v + 3, hv => omega
theorem apg_v {i : Nat} (hi : i < 3) (l : List Nat) : (l.length + (sy i).length ≤ 60 → apg (i + 1) l = l ++ sy i) ∧ (l.length ≤ 60 → 60 < l.length + (sy i).length → 60 < (apg (i + 1) l).length ∧ (apg (i + 1) l).length ≤ 61) := by
  match i, hi with
  | 0, _ =>
    have e : (sy 0).length = 1 := rfl
    refine ⟨fun h => ?_, fun h1 h2 => ?_⟩
    · show (if 60 < l.length then l else l ++ [1]) = _
      rw [if_neg (by omega)]
      rfl
    · have q : apg (0 + 1) l = l ++ [1] := by
        show (if 60 < l.length then l else l ++ [1]) = _
        rw [if_neg (by omega)]
      rw [q, List.length_append, List.length_singleton]
      omega
  | 1, _ =>
    have e : (sy 1).length = 2 := rfl
    have q : ∀ l : List Nat, apg (1 + 1) l = if 60 < l.length then l else if 60 < (l ++ [0]).length then l ++ [0] else (l ++ [0]) ++ [1] := fun l => rfl
    refine ⟨fun h => ?_, fun h1 h2 => ?_⟩
    · rw [q, if_neg (by omega), if_neg (by rw [List.length_append, List.length_singleton]; omega), List.append_assoc]
      rfl
    · rw [q, if_neg (by omega)]
      split
      · rename_i c
        rw [List.length_append, List.length_singleton] at c ⊢
        omega
      · rename_i c
        rw [List.length_append, List.length_singleton] at c
        rw [List.length_append, List.length_append, List.length_singleton, List.length_singleton]
        omega
  | 2, _ =>
    have e : (sy 2).length = 3 := rfl
    have q : ∀ l : List Nat, apg (2 + 1) l = if 60 < l.length then l else if 60 < (l ++ [2]).length then l ++ [2] else if 60 < ((l ++ [2]) ++ [0]).length then (l ++ [2]) ++ [0] else ((l ++ [2]) ++ [0]) ++ [1] := fun l => rfl
    refine ⟨fun h => ?_, fun h1 h2 => ?_⟩
    · rw [q, if_neg (by omega), if_neg (by rw [List.length_append, List.length_singleton]; omega), if_neg (by rw [List.length_append, List.length_append, List.length_singleton, List.length_singleton]; omega), List.append_assoc, List.append_assoc]
      rfl
    · rw [q, if_neg (by omega)]
      split
      · rename_i c
        rw [List.length_append, List.length_singleton] at c ⊢
        omega
      · rename_i c
        rw [List.length_append, List.length_singleton] at c
        split
        · rename_i d
          rw [List.length_append, List.length_append, List.length_singleton, List.length_singleton] at d ⊢
          omega
        · rename_i d
          rw [List.length_append, List.length_append, List.length_singleton, List.length_singleton] at d
          rw [List.length_append, List.length_append, List.length_append, List.length_singleton, List.length_singleton, List.length_singleton]
          omega
  | i + 3, hi => omega
theorem y_isLess {M : qv_Mem} {A : zq_T} {l : List Nat} (hA : zS M 107 18 A) (hK : zMC M) (oA : zq_ok A) (eA : A.2 ≤ 44) (hR : yR M l) (hl : l.length ≤ 60) {c i : Nat} (hc : 0 < c) (hc2 : c < 1000) (hi : i < 3) : ∃ N, f_X10_isLess qv_TT 106 (nI i) (nI c) M = some ((if fA (rem i A) + 1 = c then 1 else 0), N) ∧ (if fA (rem i A) + 1 = c then zS N 107 18 (rem i A) ∧ yR N (apg (i + 1) l) else zS N 107 18 A ∧ yR N l) ∧ ynf M N := by
  unfold f_X10_isLess
  obtain ⟨M1, e1, h1, k1⟩ := y_copies1 zt_tab M (a := 18) (b := 15) (by omega) (by omega) hA
  rw [zl15, show (18 : Int32) = nI 18 from rfl, e1, zbo, zjn]
  obtain ⟨M2, e2, h2, b2, k2⟩ := y_il10 (fun (M2 : qv_Mem) => qv_bp (f_X10_channels qv_TT 106 (nI 15) M2) (fun v4 M5 => (if v4 = (nI c - 1) then qv_bo (f_X10_copies qv_TT 106 (nI 15) (nI 18) M5) (fun M6 => qv_jn (fun (M7 : qv_Mem) => some (1, M7)) (fun k8 => qv_lp2 (b_X10_isLess_81 106 qv_TT k8) qv_N (nI i) M6)) else some (0, M5)))) (i + 1) qv_N M1 A (by omega) (qv_N_gt _ (by omega)) h1 (hK.kept k1 (fun s _ _ => by omega)) oA (by omega)
  rw [zi_ps] at e2
  rw [e2, rm_rem hi] at *
  have hA2 := (hA.kept k1 (by omega)).kept k2 (by omega)
  have hK2 := (hK.kept k1 (fun s _ _ => by omega)).kept k2 (fun s _ _ => by omega)
  obtain ⟨M3, e3, h3, k3⟩ := y_channels (s := 15) (by omega) (by omega) (by omega) h2 hK2 (rem_ok oA i) (by omega)
  have f3 : ynf M M3 := ((k1.nf (fun s q => by omega)).tr (k2.nf (fun s q => by omega))).tr (k3.nf (fun s q => by omega))
  have hR3 : yR M3 l := yR_sc k3 (yR_so k2 (yR_so k1 hR))
  have hl2 : fA (rem i A) < 1000 := by have := fA_le (rem i A); omega
  have e3' : f_X10_channels qv_TT 106 (nI 15) M2 = some (nI (fA (rem i A)), M3) := e3
  rw [e3', zbp]
  by_cases d : fA (rem i A) + 1 = c
  · simp only [if_pos d]
    rw [if_pos (by rw [zl1i, zi_sub (by omega) (by omega), show c - 1 = fA (rem i A) by omega])]
    obtain ⟨M4, e4, h4, k4⟩ := y_copies1 zt_tab M3 (a := 15) (b := 18) (by omega) (by omega) (h2.sc k3 (by omega))
    rw [e4, zbo, zjn]
    obtain ⟨M5, e5, h5, k5⟩ := y_il81 (fun (M7 : qv_Mem) => some ((1 : Int32), M7)) (i + 1) qv_N M4 l (by omega) (qv_N_gt _ (by omega)) (yR_so k4 hR3) (by omega)
    rw [zi_ps] at e5
    rw [e5]
    refine ⟨M5, rfl, ⟨?_, h5⟩, (f3.tr (k4.nf (fun s q => by omega))).tr k5.nf⟩
    unfold zS at h4 ⊢
    rw [k5.1]
    exact h4
  · simp only [if_neg d]
    rw [if_neg (fun z => d (by
      rw [zl1i, zi_sub (by omega) (by omega)] at z
      have := (nI_eq (a := fA (rem i A)) (b := c - 1) (by omega) (by omega)).mp z
      omega))]
    exact ⟨M3, rfl, ⟨hA2.sc k3 (by omega), hR3⟩, f3⟩
theorem y_nm35 (k : qv_Mem → Option (Int32 × qv_Mem)) : ∀ (c f : Nat) (M : qv_Mem) (l : List Nat) (A : zq_T), fA A = c → c ≤ 82 → c < f → zq_ok A → zS M 107 18 A → zMC M → yR M l → l.length ≤ 61 → ∃ N l2, qv_lp2 (b_X10_normal_35 106 qv_TT k) f (nI c) M = k N ∧ yR N l2 ∧ (l.length + (nf c A).1.length ≤ 60 → l2 = l ++ (nf c A).1 ∧ zS N 107 18 (nf c A).2) ∧ (60 < l.length + (nf c A).1.length → 60 < l2.length ∧ l2.length ≤ 61) ∧ ynf M N := by
  intro c
  induction c with
  | zero =>
    intro f M l A hc hc2 hf oA hA hK hR hl
    obtain ⟨f, rfl⟩ : ∃ g, f = g + 1 := ⟨f - 1, by omega⟩
    rw [zN2]
    unfold b_X10_normal_35
    rw [if_pos (by decide)]
    have e : (nf 0 A).1 = [] := rfl
    refine ⟨M, l, rfl, hR, fun _ => ⟨?_, hA⟩, fun q => ⟨?_, hl⟩, ynf.rf _⟩
    · rw [e, List.append_nil]
    · rw [e] at q
      exact q
  | succ c ih =>
    intro f M l A hc hc2 hf oA hA hK hR hl
    obtain ⟨f, rfl⟩ : ∃ g, f = g + 1 := ⟨f - 1, by omega⟩
    rw [zN2]
    have ih1 := ih f
    generalize qv_lp2 (b_X10_normal_35 106 qv_TT k) f = rr at ih1 ⊢
    have eE := f_e oA
    have eE2 : (chA A).2 = c + 1 := hc
    have en : (nf (c + 1) A).1 = sy (ci A) ++ (nf c (rem (ci A) A)).1 := rfl
    have en2 : (nf (c + 1) A).2 = (nf c (rem (ci A) A)).2 := rfl
    have sf := ci_f oA (by omega)
    have cl := ci_lt A
    unfold b_X10_normal_35
    rw [if_neg (show ¬ nI (c + 1) ≤ 0 from zi_nle (a := c + 1) (b := 0) (by omega) (by omega)), zgS, hR.1, zl60]
    by_cases d : 60 < l.length
    · rw [if_pos (nI_lt d (by omega))]
      refine ⟨M, l, rfl, hR, fun q => by omega, fun _ => ⟨d, hl⟩, ynf.rf _⟩
    · rw [if_neg (nI_nlt (by omega) (by omega))]
      have em : nI (c + 1) + (-1) = nI c := by rw [zi_m1', zi_ps]
      have fin : ∀ N0 : qv_Mem, zS N0 107 18 (rem (ci A) A) → yR N0 (apg (ci A + 1) l) → ynf M N0 → ∃ N l2, rr (nI c) N0 = k N ∧ yR N l2 ∧ (l.length + (nf (c + 1) A).1.length ≤ 60 → l2 = l ++ (nf (c + 1) A).1 ∧ zS N 107 18 (nf (c + 1) A).2) ∧ (60 < l.length + (nf (c + 1) A).1.length → 60 < l2.length ∧ l2.length ≤ 61) ∧ ynf M N := by
        intro N0 hB hQ hF
        obtain ⟨p1, p2⟩ := apg_v cl l
        have la : (apg (ci A + 1) l).length ≤ 61 := by
          by_cases q : l.length + (sy (ci A)).length ≤ 60
          · rw [p1 q, List.length_append]; omega
          · exact (p2 (by omega) (by omega)).2
        obtain ⟨N, l2, g1, g2, g3, g4, g5⟩ := ih1 N0 (apg (ci A + 1) l) (rem (ci A) A) (by omega) (by omega) (by omega) (rem_ok oA _) hB (hF.mc hK) hQ la
        refine ⟨N, l2, g1, g2, fun z => ?_, fun z => ?_, hF.tr g5⟩
        · rw [en, List.length_append] at z
          have q := p1 (by omega)
          rw [q, List.length_append] at g3
          obtain ⟨w1, w2⟩ := g3 (by omega)
          rw [en, en2]
          rw [List.append_assoc] at w1
          exact ⟨w1, w2⟩
        · rw [en, List.length_append] at z
          by_cases q : l.length + (sy (ci A)).length ≤ 60
          · rw [p1 q, List.length_append] at g4
            exact g4 (by omega)
          · have := p2 (by omega) (by omega)
            exact g4 (by omega)
      obtain ⟨N1, e1, r1, f1⟩ := y_isLess hA hK oA (by omega) hR (by omega) (c := c + 1) (by omega) (by omega) (i := 0) (by omega)
      rw [zi_0, e1, zbp, zjn, em]
      unfold ci at sf fin
      rw [← hc] at r1 fin ⊢
      by_cases c0 : fA (rem 0 A) + 1 = fA A
      · rw [if_pos c0] at r1 sf fin ⊢
        rw [if_neg (show ¬ (1 : Int32) = nI 0 from zl1n0)]
        exact fin N1 r1.1 r1.2 f1
      · rw [if_neg c0] at r1 sf fin ⊢
        rw [if_pos (show (0 : Int32) = nI 0 from rfl)]
        obtain ⟨N2, e2, r2, f2⟩ := y_isLess r1.1 (f1.mc hK) oA (by omega) r1.2 (by omega) (c := fA A) (by omega) (by omega) (i := 1) (by omega)
        rw [zl1i, e2, zbp]
        by_cases c1 : fA (rem 1 A) + 1 = fA A
        · rw [if_pos c1] at r2 sf fin ⊢
          rw [if_neg (show ¬ (1 : Int32) = nI 0 from zl1n0)]
          exact fin N2 r2.1 r2.2 (f1.tr f2)
        · rw [if_neg c1] at r2 sf fin ⊢
          rw [if_pos (show (0 : Int32) = nI 0 from rfl)]
          obtain ⟨N3, e3, r3, f3⟩ := y_isLess r2.1 ((f1.tr f2).mc hK) oA (by omega) r2.2 (by omega) (c := fA A) (by omega) (by omega) (i := 2) (by omega)
          rw [if_pos sf] at r3 e3
          rw [zl2i, e3, zbp, if_neg (show ¬ (1 : Int32) = nI 0 from zl1n0)]
          exact fin N3 r3.1 r3.2 ((f1.tr f2).tr f3)
def yNF (M M1 : qv_Mem) : Prop := ∃ N, ynf M N ∧ yfr N M1
theorem yNF.of {M M1 : qv_Mem} (h : ynf M M1) : yNF M M1 := ⟨M1, h, yfr.rf _⟩
theorem ynf.w {M M1 : qv_Mem} {W : Nat → List Nat} (h : ynf M M1) (q : yW M W) : yW M1 W := by
  unfold yW
  rw [h.1 113 (by omega), h.1 112 (by omega)]
  exact q
theorem ynf.h {M M1 : qv_Mem} {Hs : List (Nat × List Nat)} (h : ynf M M1) (q : yH M Hs) : yH M1 Hs := by
  unfold yH
  rw [h.1 123 (by omega), h.1 124 (by omega), h.1 125 (by omega), h.2.2.2 106 22 (by omega)]
  exact q
theorem y_normal {M : qv_Mem} {R : Nat → zq_T} {W : Nat → List Nat} {P : Nat → Nat} {Hs : List (Nat × List Nat)} (hC : zMR M R) (hK : zMC M) (hRk : zRk R) (hW : yW M W) (hk : zWk W) (hH : yH M Hs) (hHk : zHk Hs) (hk9 : zPk P) (hP : yP M P) (hL : yCl M) (p q : Int32) : ∃ M1, f_X10_normal qv_TT 106 p q M = some ((a_normal R W P Hs p q).1, M1) ∧ yW M1 (a_normal R W P Hs p q).2.1 ∧ yH M1 (a_normal R W P Hs p q).2.2 ∧ yNF M M1 := by
  unfold f_X10_normal a_normal
  rcases zr_in p 3 with ⟨w, hw, w2, rfl⟩ | h
  · rw [y_isWord hw, zbo, if_neg zl1n0, if_neg (zr_n hw w2)]
    rcases zr_in q 4 with ⟨r, hr, r2, rfl⟩ | h
    · have e40 := (hRk r hr).2
      rw [y_isReg hr, zbo, if_neg zl1n0, if_neg (zr_n hr r2), zi_cl w2, zi_cl r2, zpS, show (18 : Int32) = nI 18 from rfl, zi_0]
      have f0 : ynf M (qv_upS M 106 18 (nI 0)) := ⟨fun _ _ => rfl, fun _ _ => rfl, fun _ _ _ _ => rfl, fun a k hk => zs_ne2 hk⟩
      have hR0 : yR (qv_upS M 106 18 (nI 0)) [] := ⟨zs_at _ _ _ _, Nat.zero_le _, fun i hi => (by cases hi)⟩
      have hS0 : zS (qv_upS M 106 18 (nI 0)) 107 r (R r) := hC r hr
      obtain ⟨M1, e1, h1, k1⟩ := y_copies1 zt_tab (qv_upS M 106 18 (nI 0)) (a := r) (b := 18) (by omega) (by omega) hS0
      have f1 := f0.tr (k1.nf (fun s q => by omega))
      obtain ⟨M2, e2, h2, k2⟩ := y_channels (s := 18) (by omega) (by omega) (by omega) h1 (f1.mc hK) (hRk r hr).1 (by omega)
      have f2 := f1.tr (k2.nf (fun s q => by omega))
      have hR2 : yR M2 [] := yR_sc k2 (yR_so k1 hR0)
      have e2' : f_X10_channels qv_TT 106 (nI 18) M1 = some (nI (fA (R r)), M2) := e2
      have fl := fA_le (R r)
      rw [e1, zbo, e2', zbp, zjn]
      obtain ⟨N, l2, g1, g2, g3, g4, g5⟩ := y_nm35 (fun (M7 : qv_Mem) => qv_gS 106 18 M7 (fun v9 => (if v9 ≤ 60 then qv_bo (f_X10_cliffordOf qv_TT 106 (nI 18) M7) (fun v10 => qv_bo (f_X10_cheapestBehind qv_TT 106 v10 M7) (fun M11 => qv_gS 106 18 M11 (fun v12 => (if v12 ≤ 60 then qv_bp (f_X10_becomes qv_TT 106 (nI w) M11) (fun v13 M14 => some (v13, M14)) else some ((-3), M11))))) else some ((-3), M7)))) (fA (R r)) qv_N M2 [] (R r) rfl (by omega) (qv_N_gt _ (by omega)) (hRk r hr).1 (h1.sc k2 (by omega)) (f2.mc hK) hR2 (Nat.zero_le _)
      have f3 := f2.tr g5
      rw [g1, zgS, g2.1, zl60]
      have l0 : ([] : List Nat).length = 0 := rfl
      rw [l0, Nat.zero_add] at g3 g4
      obtain ⟨o1, o2⟩ := nf_ok (fA (R r)) (R r) (hRk r hr).1 rfl
      obtain ⟨c1, c2⟩ := cno_spec o1 o2
      have hE := (cl_key c1).2.2
      have cl : (cw P (cno (nf (fA (R r)) (R r)).2)).length = Dr P (cno (nf (fA (R r)) (R r)).2) % 1024 := cwd_len _ _ _
      have ln : (nfw P (fA (R r)) (R r)).length = (nf (fA (R r)) (R r)).1.length + (cw P (cno (nf (fA (R r)) (R r)).2)).length := List.length_append
      by_cases d : (nf (fA (R r)) (R r)).1.length ≤ 60
      · obtain ⟨u1, u2⟩ := g3 d
        rw [List.nil_append] at u1
        rw [u1, if_pos (nI_le d (by omega))]
        rw [u1] at g2
        rw [← c2] at u2
        rw [y_cliffordOf (Nat.le_refl _) (by omega) (f3.cl hL).1 (f3.cl hL).2.1 u2 (zb_le (cl_b c1) (by decide)) (by omega), zbo, cix_in (Nat.le_refl _) c1 rfl]
        obtain ⟨Q, e4, h4, -, k4⟩ := y_cheapestBehind hk9 (f3.p hP) (f3.cl hL) g2 (by omega) c1
        have f4 := f3.tr k4.nf
        have h4' : yR Q (nfw P (fA (R r)) (R r)) := h4
        have b := Dr_cl P c1
        rw [e4, zbo, zgS, h4'.1]
        by_cases dd : (nfw P (fA (R r)) (R r)).length ≤ 60
        · rw [if_pos (nI_le dd (by omega)), if_pos dd]
          obtain ⟨T, e5, t1, t2, t3⟩ := y_becomes (f4.w hW) hk (f4.h hH) hHk hw h4' dd (nfw_lt (hRk r hr).1)
          rw [e5, zbp]
          exact ⟨T, rfl, t1, t2, Q, f4, t3⟩
        · rw [if_neg (zi_nle (a := (nfw P (fA (R r)) (R r)).length) (b := 60) (by omega) (by omega)), if_neg dd]
          exact ⟨Q, rfl, f4.w hW, f4.h hH, yNF.of f4⟩
      · have u := g4 (by omega)
        rw [if_neg (zi_nle (a := l2.length) (b := 60) (by omega) (by omega)), if_neg (by omega)]
        exact ⟨N, rfl, f3.w hW, f3.h hH, yNF.of f3⟩
    · rw [y_isReg0 h, zbo, if_pos rfl, if_pos h]
      exact ⟨M, rfl, hW, hH, yNF.of (ynf.rf _)⟩
  · rw [y_isWord0 h, zbo, if_pos rfl, if_pos h]
    exact ⟨M, rfl, hW, hH, yNF.of (ynf.rf _)⟩
