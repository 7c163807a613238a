/-! write: the reference's call. -/
theorem yst_25 {M : qv_Mem} {p o m : Nat} {v : Option (List Nat)} (h : yst M p o m v) (q : Nat) : yst (qv_upS M 106 25 (nI q)) q o m v := ⟨zs_at _ _ _ _, by rw [zs_ne2 (by omega)]; exact h.2.1, by rw [zs_ne2 (by omega)]; exact h.2.2.1, by rw [zs_ne2 (by omega)]; exact h.2.2.2.1, h.2.2.2.2⟩
theorem yst_26 {M : qv_Mem} {p o m : Nat} {v : Option (List Nat)} (h : yst M p o m v) (q : Nat) : yst (qv_upS M 106 26 (nI q)) p q m v := ⟨by rw [zs_ne2 (by omega)]; exact h.1, zs_at _ _ _ _, by rw [zs_ne2 (by omega)]; exact h.2.2.1, by rw [zs_ne2 (by omega)]; exact h.2.2.2.1, h.2.2.2.2⟩
theorem lok_tw {w : Option (List Nat)} (h : lok w) : lok (twO w) := by
  intro x hx
  cases w with
  | none => cases hx
  | some y =>
    have hx2 : (if (zq_inv y).length ≤ 60 then some (zq_inv y) else none) = some x := hx
    by_cases d : (zq_inv y).length ≤ 60
    · rw [if_pos d] at hx2
      have e := Option.some.inj hx2
      rw [← e]
      exact ⟨d, inv_lt7 (h y rfl).2⟩
    · rw [if_neg d] at hx2; cases hx2
theorem lok_rp {w : Option (List Nat)} (h : lok w) (k : Nat) : lok (rpO k w) := by
  intro x hx
  cases w with
  | none => cases hx
  | some y =>
    have hx2 : (if y.length * k ≤ 60 then some (rpl k y) else none) = some x := hx
    by_cases d : y.length * k ≤ 60
    · rw [if_pos d] at hx2
      have e := Option.some.inj hx2
      rw [← e]
      refine ⟨by rw [rpl_len]; exact d, ?_⟩
      have : ∀ n, ∀ g ∈ rpl n y, g < 7 := by
        intro n
        induction n with
        | zero => intro g hg; cases hg
        | succ n ih => intro g hg; exact (List.mem_append.mp hg).elim (ih g) ((h y rfl).2 g)
      exact this k
    · rw [if_neg d] at hx2; cases hx2
theorem vpu_vap (v : Option (List Nat)) (g : Nat) : vpu v g = vap v (some [g]) := by cases v <;> rfl
theorem y_item {n : Nat} (hI : yri n) (hS : yrs n) : yri (n + 1) := by
  intro B hk p o m v M ho hn hbg hT hst hm hv
  have h80 := hk.1
  have hp := bgn_lt hbg
  show ∃ N m2, f_X10_item (f_it n).1 (f_it n).2 qv_TT 106 M = some (y_b2i (itemF B (pIt B n).1 (pIt B n).2 p o).1, N) ∧ yrf M N ∧ N.2.2 106 25 = nI (itemF B (pIt B n).1 (pIt B n).2 p o).2.1 ∧ b01 N ∧ ((itemF B (pIt B n).1 (pIt B n).2 p o).1 = true → lok (itemF B (pIt B n).1 (pIt B n).2 p o).2.2 ∧ yst N (itemF B (pIt B n).1 (pIt B n).2 p o).2.1 o m2 (vap v (itemF B (pIt B n).1 (pIt B n).2 p o).2.2) ∧ m ≤ m2 ∧ m2 ≤ 420)
  unfold f_X10_item itemF
  rw [y_here hk hT (by omega) hst.1, zbo, y_gb hk, zbo]
  by_cases c1 : glt (hb B p) < 7
  · rw [if_neg (by rw [zsn_2]; exact fun q => q c1), if_pos c1, zgS, hst.1, zpS, nI_1]
    have ez : zsn (glt (hb B p)) = nI (glt (hb B p)) := by unfold zsn; rw [if_pos c1]
    have s1 := yst_25 hst (p + 1)
    obtain ⟨N, e1, q1, q2, q3, q4, -⟩ := y_puts s1.2.2 (by omega) (glt (hb B p))
    rw [ez, e1, zbo]
    have f1 : yrf M N := (yrf_s (by omega)).tr q2
    have st : yst N (p + 1) o (mpu v m) (vap v (some [glt (hb B p)])) := ⟨by rw [q3]; exact s1.1, by rw [q4]; exact s1.2.1, by rw [← vpu_vap]; exact q1⟩
    refine ⟨N, mpu v m, rfl, f1, st.1, st.b, fun _ => ⟨fun x hx => ?_, st, ?_, ?_⟩⟩
    · have e : [glt (hb B p)] = x := Option.some.inj hx
      rw [← e]
      exact ⟨show 1 ≤ 60 by omega, fun g hg => by rw [List.mem_singleton.mp hg]; exact c1⟩
    · cases v with
      | none => exact Nat.le_refl _
      | some l => exact Nat.le_succ _
    · cases v with
      | none => exact hm
      | some l =>
        have := hv l rfl
        show m + 1 ≤ 420
        omega
  · rw [if_pos (by rw [zsn_2]; exact c1), if_neg c1, zgS, hst.2.2.1, zbo, zl126]
    by_cases c2 : hb B p = 126
    · rw [if_pos (by rw [zhr_eq hk p (by omega)]; exact c2), if_pos c2, zgS, hst.1, zpS, nI_1]
      have s1 := yst_25 hst (p + 1)
      have f1 : yrf M (qv_upS M 106 25 (nI (p + 1))) := yrf_s (by omega)
      have hT1 := hT.rf f1
      rw [y_begins hk hT1 (by omega) ho s1.1 s1.2.1, zbo]
      by_cases c3 : bgn B (p + 1) o = true
      · rw [if_pos c3, if_neg zl1n0, if_pos c3]
        obtain ⟨N, m2, e1, g1, g2, g3, g4⟩ := hI B hk (p + 1) o m v _ ho (by omega) c3 hT1 s1 hm hv
        rw [e1, zbp]
        by_cases d : ((pIt B n).1 (p + 1) o).1 = true
        · obtain ⟨w1, w2, w3, w4⟩ := g4 d
          rw [if_pos d, d, if_neg (show ¬ y_b2i true = 0 by decide)]
          obtain ⟨Q, m3, e2, u1, u2, u3, u4, u5, u6⟩ := y_reverses (l := []) (fun l hl => yrv_len hst.2.2 hl) w1 hm w3 w4 w2.2.2
          rw [e2, zbo]
          have st : yst Q ((pIt B n).1 (p + 1) o).2.1 o m3 (vap v (twO ((pIt B n).1 (p + 1) o).2.2)) := ⟨by rw [u5]; exact w2.1, by rw [u6]; exact w2.2.1, u1⟩
          refine ⟨Q, m3, rfl, (f1.tr g1).tr u4, st.1, st.b, fun _ => ⟨lok_tw w1, st, u2, ?_⟩⟩
          rcases u3 with ⟨z, z2⟩ | z
          · cases v with
            | none => exact absurd rfl z2
            | some l =>
              have := hv l rfl
              omega
          · rw [z]; exact w4
        · rw [if_neg d]
          rw [Bool.not_eq_true] at d
          rw [d, if_pos (show y_b2i false = 0 by decide)]
          exact ⟨N, 0, rfl, f1.tr g1, g2, g3, fun q => (by cases q)⟩
      · rw [if_neg c3, if_pos rfl, if_neg c3]
        exact ⟨_, 0, rfl, f1, s1.1, s1.b, fun q => (by cases q)⟩
    · rw [if_neg (by rw [zhr_eq hk p (by omega)]; exact c2), if_neg c2]
      obtain ⟨b1, b2⟩ := bgn_3 hbg c1 c2
      rw [zgS, hst.2.1, zpS, nI_1, zgS]
      have s0 := yst_26 hst (o + 1)
      rw [s0.1, zpS, nI_1]
      have s1 := yst_25 s0 (p + 1)
      have f1 : yrf M (qv_upS (qv_upS M 106 26 (nI (o + 1))) 106 25 (nI (p + 1))) := (yrf_s (by omega)).tr (yrf_s (by omega))
      generalize qv_upS (qv_upS M 106 26 (nI (o + 1))) 106 25 (nI (p + 1)) = M8 at s1 f1 ⊢
      have hT1 := hT.rf f1
      obtain ⟨N, m2, e1, g1, g2, g3, g4⟩ := hS B hk (p + 1) (o + 1) m v M8 (by omega) (by omega) (by omega) hT1 s1 hm hv
      rw [e1, zbp]
      by_cases d : ((pIt B n).2 (p + 1) (o + 1)).1 = true
      · obtain ⟨w1, w2, w3, w4⟩ := g4 d
        obtain ⟨-, j2, j3, -, -⟩ := ((F_all h80 n).2 (p + 1) (o + 1) (by omega) (by omega) (by omega) (fun _ => by rw [show p + 1 - 1 = p by omega]; omega)).1 d
        rw [if_pos d, d, if_neg (show ¬ y_b2i true = 0 by decide)]
        have hTN := hT1.rf g1
        have fN := f1.tr g1
        generalize ((pIt B n).2 (p + 1) (o + 1)).2.2 = w at w1 w2 ⊢
        generalize ((pIt B n).2 (p + 1) (o + 1)).2.1 = q at w2 g2 j2 j3 ⊢
        rw [y_here hk hTN (by omega) w2.1, zbo, show (41 : Int32) = nI 41 from rfl]
        by_cases c3 : hb B q = 41
        · have hq := hb_lt (B := B) (p := q) (by omega)
          rw [if_pos (by rw [zhr_eq hk q (by omega)]; exact c3), if_pos c3, zgS, w2.2.1, zpS, zi_ps, zgS]
          have s2 := yst_26 w2 o
          rw [s2.1, zpS, nI_1]
          have s3 := yst_25 s2 (q + 1)
          have f3 : yrf M (qv_upS (qv_upS N 106 26 (nI o)) 106 25 (nI (q + 1))) := fN.tr ((yrf_s (by omega)).tr (yrf_s (by omega)))
          generalize qv_upS (qv_upS N 106 26 (nI o)) 106 25 (nI (q + 1)) = M15 at s3 f3 ⊢
          have hT3 := hT.rf f3
          rw [y_here hk hT3 (by omega) s3.1, zbo, y_isd hk, zbo, zjn]
          have fin : ∀ (M19 : qv_Mem) (k : Nat), k ≤ 9 → k = fig B (q + 1) → yst M19 (afd B (q + 1)) o m2 (vap v w) → yrf M M19 → ∃ N m2, y_grp (nI m) (nI k) M19 = some (y_b2i true, N) ∧ yrf M N ∧ N.2.2 106 25 = nI (afd B (q + 1)) ∧ b01 N ∧ (true = true → lok (rpO (fig B (q + 1)) w) ∧ yst N (afd B (q + 1)) o m2 (vap v (rpO (fig B (q + 1)) w)) ∧ m ≤ m2 ∧ m2 ≤ 420) := by
            intro M19 k k9 hkf hs hf
            obtain ⟨Q, m3, e4, u1, u2, u3, u4, u5, u6, u7⟩ := y_group (fun l hl => yrv_len hst.2.2 hl) w1 w3 w4 k9 hs.2.2
            rw [hkf] at u1
            have st : yst Q (afd B (q + 1)) o m3 (vap v (rpO (fig B (q + 1)) w)) := ⟨by rw [u6]; exact hs.1, by rw [u7]; exact hs.2.1, u1⟩
            refine ⟨Q, m3, e4, hf.tr u5, st.1, st.b, fun _ => ⟨lok_rp w1 _, st, u2, ?_⟩⟩
            rcases u4 with ⟨z, z2⟩ | z
            · cases v with
              | none => exact absurd rfl z2
              | some l =>
                have := hv l rfl
                omega
            · omega
          by_cases c4 : 48 ≤ hb B (q + 1) ∧ hb B (q + 1) ≤ 57
          · have hq1 := hb_lt (B := B) (p := q + 1) (by omega)
            have ea : afd B (q + 1) = q + 1 + 1 := by unfold afd; rw [if_pos c4]
            have ef : fig B (q + 1) = hb B (q + 1) - 48 := by unfold fig; rw [if_pos c4]
            have ez : zhr B (q + 1) - 48 = nI (hb B (q + 1) - 48) := by
              unfold zhr
              rw [if_pos hq1, show (48 : Int32) = nI 48 from rfl, zi_sub c4.1 (by omega)]
            rw [if_pos c4, if_neg zl1n0, zbo, zgS, s3.1, zpS, nI_1, ez]
            have s4 := yst_25 s3 (q + 1 + 1)
            rw [← ea] at s4 ⊢
            exact fin _ (hb B (q + 1) - 48) (by omega) ef.symm s4 (f3.tr (yrf_s (by omega)))
          · have ea : afd B (q + 1) = q + 1 := by unfold afd; rw [if_neg c4]
            have ef : fig B (q + 1) = 1 := by unfold fig; rw [if_neg c4]
            rw [if_neg c4, if_pos rfl]
            rw [← ea] at s3
            exact fin M15 1 (by omega) ef.symm s3 f3
        · rw [if_neg (by rw [zhr_eq hk q (by omega)]; exact c3), if_neg c3]
          exact ⟨N, 0, rfl, fN, g2, g3, fun z => (by cases z)⟩
      · rw [if_neg d]
        rw [Bool.not_eq_true] at d
        rw [d, if_pos (show y_b2i false = 0 by decide)]
        exact ⟨N, 0, rfl, f1.tr g1, g2, g3, fun q => (by cases q)⟩
theorem y_all_it : ∀ n, yri n ∧ yrs n
  | 0 => ⟨fun B hk p o m v M ho hn => by omega, fun B hk p o m v M ho hp hn => by omega⟩
  | n + 1 => ⟨y_item (y_all_it n).1 (y_all_it n).2, y_items (y_all_it n).1⟩
/-- a text's gates: at most 60 -/
theorem pT_ok {B : List Nat} (hB : zBk B) (h : (pT B).1 = true) : lok (pT B).2.2 := by
  have h80 := hB.1
  have key : ∀ n, (∀ p o, o ≤ 4 → 2 * (B.length - p) + 1 ≤ n → bgn B p o = true → ((pIt B n).1 p o).1 = true → lok ((pIt B n).1 p o).2.2) ∧ (∀ p o, o ≤ 4 → p ≤ B.length → 2 * (B.length - p) + 2 ≤ n → (0 < p → hb B (p - 1) ≠ 41) → ((pIt B n).2 p o).1 = true → lok ((pIt B n).2 p o).2.2) := by
    intro n
    induction n with
    | zero => exact ⟨fun p o ho hn => by omega, fun p o ho hp hn => by omega⟩
    | succ n ih =>
      obtain ⟨i1, i2⟩ := ih
      obtain ⟨F1, F2⟩ := F_all h80 n
      refine ⟨fun p o ho hn hbg hr => ?_, fun p o ho hp hn h41 hr => ?_⟩
      · have hp := bgn_lt hbg
        have hr' : (itemF B (pIt B n).1 (pIt B n).2 p o).1 = true := hr
        show lok (itemF B (pIt B n).1 (pIt B n).2 p o).2.2
        unfold itemF at hr' ⊢
        by_cases c1 : glt (hb B p) < 7
        · rw [if_pos c1]
          intro x hx
          have e : [glt (hb B p)] = x := Option.some.inj hx
          rw [← e]
          exact ⟨show 1 ≤ 60 by omega, fun g hg => by rw [List.mem_singleton.mp hg]; exact c1⟩
        · rw [if_neg c1] at hr' ⊢
          by_cases c2 : hb B p = 126
          · rw [if_pos c2] at hr' ⊢
            by_cases c3 : bgn B (p + 1) o = true
            · rw [if_pos c3] at hr' ⊢
              by_cases d : ((pIt B n).1 (p + 1) o).1 = true
              · rw [if_pos d]
                exact lok_tw (i1 (p + 1) o ho (by omega) c3 d)
              · rw [if_neg d] at hr'; cases hr'
            · rw [if_neg c3] at hr'; cases hr'
          · rw [if_neg c2] at hr' ⊢
            obtain ⟨b1, b2⟩ := bgn_3 hbg c1 c2
            by_cases d : ((pIt B n).2 (p + 1) (o + 1)).1 = true
            · rw [if_pos d] at hr' ⊢
              by_cases e : hb B ((pIt B n).2 (p + 1) (o + 1)).2.1 = 41
              · rw [if_pos e]
                exact lok_rp (i2 (p + 1) (o + 1) (by omega) (by omega) (by omega) (fun _ => by rw [show p + 1 - 1 = p by omega]; omega) d) _
              · rw [if_neg e] at hr'; cases hr'
            · rw [if_neg d] at hr'; cases hr'
      · have hr' : (itemsF B (pIt B n).1 p o).1 = true := hr
        show lok (itemsF B (pIt B n).1 p o).2.2
        unfold itemsF at hr' ⊢
        by_cases c : bgn B p o = true
        · rw [if_pos c] at hr' ⊢
          have lp : ∀ (j p : Nat) (acc : Option (List Nat)), p ≤ B.length → 2 * (B.length - p) + 1 ≤ n → lok acc → (pLp B (pIt B n).1 o j p acc).1 = true → lok (pLp B (pIt B n).1 o j p acc).2.2 := by
            intro j
            induction j with
            | zero => intro p acc _ _ _ q; cases q
            | succ j ihj =>
              intro p acc hp hn ha q
              unfold pLp at q ⊢
              by_cases b : bgn B p o = true
              · rw [if_pos b] at q ⊢
                by_cases d : ((pIt B n).1 p o).1 = true
                · rw [if_pos d] at q ⊢
                  obtain ⟨-, j2, j3, -⟩ := (F1 p o true ho hn b).1 d
                  exact ihj _ _ j3 (by omega) (catO_ok ha (i1 p o ho hn b d)) q
                · rw [if_neg d] at q; cases q
              · rw [if_neg b]
                exact ha
          exact lp 81 p (some []) hp (by omega) lok_nil hr'
        · rw [if_neg c] at hr'; cases hr'
  exact (key 200).2 0 0 (by omega) (by omega) (by omega) (fun h => by omega) h
def yWr (M M1 : qv_Mem) : Prop := ∃ N, (N.2.1 = M.2.1 ∧ (∀ a, a ≠ 122 → a ≠ 127 → N.1 a = M.1 a) ∧ ∀ a k, ¬ (a = 106 ∧ (k = 18 ∨ k = 24 ∨ k = 25 ∨ k = 26 ∨ k = 27)) → N.2.2 a k = M.2.2 a k) ∧ yfr N M1
theorem y_write {M : qv_Mem} {W : Nat → List Nat} {Hs : List (Nat × List Nat)} {B : List Nat} (hW : yW M W) (hk : zWk W) (hH : yH M Hs) (hHk : zHk Hs) (hB : zBk B) (hT : yTp M B) (p : Int32) : ∃ M1, f_X10_write qv_TT 106 p M = some ((a_write W Hs B p).1, M1) ∧ yW M1 (a_write W Hs B p).2.1 ∧ yH M1 (a_write W Hs B p).2.2 ∧ yTp M1 (a_writeB B p) ∧ yWr M M1 := by
  have h80 := hB.1
  unfold f_X10_write a_write a_writeB
  rcases zr_in p 3 with ⟨w, hw, w2, rfl⟩ | h
  · rw [y_isWord hw, zbo, if_neg zl1n0, if_neg (zr_n hw w2), if_neg (zr_n hw w2), zi_cl w2, zpS, zpS, zpS, zpZ0, zi_0]
    generalize hM5 : qv_upS (qv_upS (qv_upS (qv_upS M 106 25 (nI 0)) 106 26 (nI 0)) 106 18 (nI 0)) 106 27 (nI 0) = M5
    have f5 : yrf M M5 := by rw [← hM5]; exact (((yrf_s (by omega)).tr (yrf_s (by omega))).tr (yrf_s (by omega))).tr (yrf_s (by omega))
    have s5 : yst M5 0 0 0 (some []) := by
      rw [← hM5]
      refine ⟨?_, ?_, ?_, ?_, fun l hl => ?_⟩
      · rw [zs_ne2 (by omega), zs_ne2 (by omega), zs_ne2 (by omega), zs_at]
      · rw [zs_ne2 (by omega), zs_ne2 (by omega), zs_at]
      · rw [zs_ne2 (by omega), zs_at]
      · rw [zs_at]; rfl
      · have e : ([] : List Nat) = l := Option.some.inj hl
        rw [← e]
        exact ⟨rfl, fun i hi => by omega⟩
    obtain ⟨N, m2, e1, g1, g2, g3, g4⟩ := (y_all_it 200).2 B hB 0 0 0 (some []) M5 (by omega) (by omega) (by omega) (hT.rf f5) s5 (by omega) (fun l hl => by omega)
    have eP : (pIt B 200).2 0 0 = pT B := rfl
    rw [eP] at e1 g2 g4
    have e1' : f_X10_itemsC qv_TT 106 M5 = some (y_b2i (pT B).1, N) := e1
    rw [e1', zbp, zjn]
    have fN := f5.tr g1
    have hTN := hT.rf fN
    obtain ⟨k1, k2⟩ := (F_all h80 200).2 0 0 (by omega) (by omega) (by omega) (fun h => by omega)
    rw [eP] at k1 k2
    have pl : (pT B).2.1 ≤ 80 := by
      by_cases z : (pT B).1 = true
      · have := (k1 z).2.2.1; omega
      · rw [Bool.not_eq_true] at z
        have := (k2 z).2; omega
    have wipe : yWr M (qv_upS N 106 24 (nI 0)) := ⟨qv_upS N 106 24 (nI 0), ⟨fN.1, fN.2.1, fun a k hk => by
      rw [zs_ne2 (fun q => hk ⟨q.1, by omega⟩)]
      exact fN.2.2 a k (fun q => hk ⟨q.1, by omega⟩)⟩, yfr.rf _⟩
    have tw : yTp (qv_upS N 106 24 (nI 0)) [] := ⟨zs_at _ _ _ _, Nat.zero_le _, fun i hi => (by cases hi)⟩
    have hW2 : yW (qv_upS N 106 24 (nI 0)) W := by
      unfold yW
      show ∀ w, w < 3 → N.1 113 w = _ ∧ _ ∧ ∀ i, _ → N.1 112 _ = _
      rw [fN.2.1 113 (by omega) (by omega), fN.2.1 112 (by omega) (by omega)]
      exact hW
    have hH2 : yH (qv_upS N 106 24 (nI 0)) Hs := by
      unfold yH
      rw [zs_ne2 (by omega), fN.2.2 106 22 (by omega)]
      show _ ∧ _ ∧ hL (N.1 125) (N.1 124) (N.1 123) Hs
      rw [fN.2.1 125 (by omega) (by omega), fN.2.1 124 (by omega) (by omega), fN.2.1 123 (by omega) (by omega)]
      exact hH
    have bad : ¬ ((pT B).1 = true ∧ (pT B).2.1 = B.length) → ∃ M1, qv_pS 106 24 (nI 0) N (fun M10 => (if (nI 0 : Int32) = nI 0 then qv_gS 106 25 M10 (fun v14 => some (((-100) - v14), M10)) else qv_gS 106 27 M10 (fun v11 => (if v11 = nI 0 then qv_bp (f_X10_becomes qv_TT 106 (nI w) M10) (fun v12 M13 => some (v12, M13)) else some ((-3), M10))))) = some ((if (pT B).1 = true ∧ (pT B).2.1 = B.length then (match (pT B).2.2 with | some c => a_bec W Hs w c | none => (-3, W, Hs)) else (-100 - nI (pT B).2.1, W, Hs)).1, M1) ∧ yW M1 (if (pT B).1 = true ∧ (pT B).2.1 = B.length then (match (pT B).2.2 with | some c => a_bec W Hs w c | none => (-3, W, Hs)) else (-100 - nI (pT B).2.1, W, Hs)).2.1 ∧ yH M1 (if (pT B).1 = true ∧ (pT B).2.1 = B.length then (match (pT B).2.2 with | some c => a_bec W Hs w c | none => (-3, W, Hs)) else (-100 - nI (pT B).2.1, W, Hs)).2.2 ∧ yTp M1 [] ∧ yWr M M1 := by
      intro hn
      rw [if_neg hn, zpS, if_pos rfl, zgS, zs_ne2 (by omega), g2]
      exact ⟨_, rfl, hW2, hH2, tw, wipe⟩
    by_cases c1 : (pT B).1 = true
    · obtain ⟨w1, w3, w4, w5⟩ := g4 c1
      rw [c1, if_neg (show ¬ y_b2i true = nI 0 by decide), zgS, g2, zgS, hTN.1]
      rw [c1] at bad
      by_cases c2 : (pT B).2.1 = B.length
      · rw [if_pos (by rw [c2]), if_pos ⟨rfl, c2⟩]
        dsimp only
        rw [zpS, if_neg (show ¬ (1 : Int32) = nI 0 from zl1n0), zgS, zs_ne2 (by omega), w3.2.2.2.1]
        cases e : (pT B).2.2 with
        | none =>
          rw [if_neg (show ¬ sv (vap (some []) none) = nI 0 by decide)]
          exact ⟨_, rfl, hW2, hH2, tw, wipe⟩
        | some c =>
          obtain ⟨c60, cg⟩ := w1 c e
          have w6 := w3.2.2.2.2 c (by rw [e]; rfl)
          rw [if_pos (show sv (vap (some []) (some c)) = nI 0 from rfl)]
          have hR : yR (qv_upS N 106 24 (nI 0)) c := ⟨by rw [zs_ne2 (by omega), w3.2.2.1, w6.1], by omega, fun i hi => w6.2 i (by omega)⟩
          obtain ⟨Q, e3, t1, t2, t3⟩ := y_becomes hW2 hk hH2 hHk hw hR c60 cg
          rw [e3, zbp]
          refine ⟨Q, rfl, t1, t2, ?_, ?_⟩
          · unfold yTp
            rw [t3.2.2 106 24 (by omega)]
            exact ⟨tw.1, Nat.zero_le _, fun i hi => (by cases hi)⟩
          · obtain ⟨N2, n1, n2⟩ := wipe
            exact ⟨N2, n1, n2.tr t3⟩
      · rw [if_neg (fun z => c2 ((nI_eq (by omega) (by omega)).mp z))]
        exact bad (fun z => c2 z.2)
    · have c1' : (pT B).1 = false := by rwa [Bool.not_eq_true] at c1
      rw [c1', if_pos (show y_b2i false = nI 0 by decide)]
      rw [c1'] at bad
      exact bad (fun z => Bool.noConfusion z.1)
  · rw [y_isWord0 h, zbo, if_pos rfl, if_pos h, if_pos h]
    exact ⟨M, rfl, hW, hH, hT, M, ⟨rfl, fun _ _ _ => rfl, fun _ _ _ => rfl⟩, yfr.rf _⟩
theorem a_write_k {W : Nat → List Nat} {Hs : List (Nat × List Nat)} {B : List Nat} (hk : zWk W) (hH : zHk Hs) (hB : zBk B) (p : Int32) : zWk (a_write W Hs B p).2.1 ∧ zHk (a_write W Hs B p).2.2 := by
  have h80 := hB.1
  unfold a_write
  rcases zr_in p 3 with ⟨w, hw, w2, rfl⟩ | h
  · rw [if_neg (zr_n hw w2), zi_cl w2]
    by_cases c : (pT B).1 = true ∧ (pT B).2.1 = B.length
    · rw [if_pos c]
      cases e : (pT B).2.2 with
      | none => exact ⟨hk, hH⟩
      | some x =>
        have hp := pT_ok hB c.1 x e
        exact a_bec_k hk hH hw hp.1 hp.2
    · rw [if_neg c]
      exact ⟨hk, hH⟩
  · rw [if_pos h]
    exact ⟨hk, hH⟩
