/-! fits, on both sides. -/
theorem zinv3 {A1 α : Type} {b : (A1 → Int32 → qv_Mem → Option α) → A1 → Int32 → qv_Mem → Option α} {k : A1 → qv_Mem → Option α} (I : Nat → A1 → qv_Mem → Prop) (i0 e : Nat) (hie : i0 ≤ e) (hb : ∀ i v M r, i0 ≤ i → i < e → I i v M → ∃ v1 M1, I (i + 1) v1 M1 ∧ b r v (nI i) M = r v1 (nI (i + 1)) M1) (he : ∀ v M r, I e v M → b r v (nI e) M = k v M) (f : Nat) (hf : e - i0 < f) (v : A1) (M : qv_Mem) (h0 : I i0 v M) : ∃ v1 M1, I e v1 M1 ∧ qv_lp3 b f v (nI i0) M = k v1 M1 := by
  have h : ∀ (f i : Nat) (v : A1) (M : qv_Mem), I i v M → i0 ≤ i → i ≤ e → e - i < f → ∃ v1 M1, I e v1 M1 ∧ qv_lp3 b f v (nI i) M = k v1 M1 := by
    intro f
    induction f with
    | zero => intro i v M _ _ _ h; omega
    | succ f ih =>
      intro i v M hI h0 h1 h2
      show ∃ v1 M1, I e v1 M1 ∧ b (qv_lp3 b f) v (nI i) M = k v1 M1
      by_cases h : i < e
      · obtain ⟨v1, M1, q1, q2⟩ := hb i v M (qv_lp3 b f) h0 h hI
        rw [q2]
        exact ih (i + 1) v1 M1 q1 (by omega) (by omega) (by omega)
      · have : i = e := by omega
        subst this
        exact ⟨v, M, hI, he v M _ hI⟩
  exact h f i0 v M h0 (Nat.le_refl _) hie hf
theorem zpow_le : ∀ (n m : Nat), n ≤ m → (2 : Int) ^ n ≤ 2 ^ m := by
  intro n m h
  obtain ⟨d, rfl⟩ : ∃ d, m = n + d := ⟨m - n, by omega⟩
  clear h
  induction d with
  | zero => exact Int.le_refl _
  | succ d ih =>
    have e : (2 : Int) ^ (n + (d + 1)) = 2 ^ (n + d) * 2 := by rw [show n + (d + 1) = (n + d) + 1 by omega, Int.pow_succ]
    have p : (0 : Int) < 2 ^ n := Int.pow_pos (by decide)
    omega
theorem zb_pm2 {A B : zq_T} (oA : zq_ok A) (oB : zq_ok B) (h : A.2 + B.2 ≤ 100) : zb (zq_pmF A.1 B.1) 2305843009213693952 := by
  have b1 := oA.bd ((A.2 + 1) / 2) (by omega)
  have b2 := oB.bd ((B.2 + 1) / 2) (by omega)
  refine zb_le (zb_pm b1 b2) ?_
  rw [← Int.pow_add]
  have := zpow_le ((A.2 + 1) / 2 + (B.2 + 1) / 2) 51 (by omega)
  have e : (8 : Int) * 2 ^ 51 ≤ 2305843009213693952 := by decide
  omega
theorem zq_ok.b61 {A : zq_T} (oA : zq_ok A) (h : A.2 ≤ 100) : zb A.1 2305843009213693952 := zb_le (oA.bd 50 (by omega)) (by decide)
theorem zor0 (v : Int32) : v ||| 0 = v := by
  apply Int32.toBitVec_inj.mp
  simp
noncomputable def a_fe (R : zq_T) (l : List Nat) (i g : Nat) : Bool := @decide (zq_val (l.set i g) = R) (Classical.propDecidable _)
def a_fb (E : Nat → Bool) : Nat → Int32
  | 0 => 0
  | g + 1 => a_fb E g ||| (if E g = true then 1 <<< (nI g &&& 31) else 0)
noncomputable def a_fits (R : Nat → zq_T) (W : Nat → List Nat) (p q r : Int32) : Int32 := if zr p 3 then -1 else if zr q (W p.toNatClampNeg).length then -1 else if zr r 4 then -1 else a_fb (a_fe (R r.toNatClampNeg) (W p.toNatClampNeg) q.toNatClampNeg) 7
theorem a_set_val {l : List Nat} {i g : Nat} (hi : i < l.length) : zq_val (l.set i g) = zq_lm (zq_lm (zq_val (l.take i)) (zq_gt g)) (zq_val (l.drop (i + 1))) := by
  rw [List.set_eq_take_append_cons_drop, if_pos hi, zq_val_app, zq_val_cons, zq_lm_assoc]
theorem zl31 : (31 : Int32) = nI 31 := id rfl
theorem x_fits {M : qv_Mem} {R : Nat → zq_T} {W : Nat → List Nat} (hC : zCR M R) (hRk : zRk R) (hW : zCW M W) (hk : zWk W) (p q r : Int32) : ∃ M1, f_X9_fits qv_TT 0 p q r M = some (a_fits R W p q r, M1) ∧ zfr zSB M M1 := by
  unfold f_X9_fits a_fits
  rcases zr_in p 3 with ⟨w, hw, w2, rfl⟩ | h
  · rw [x_isWord hw, zbo, if_neg zl1n0, if_neg (zr_n hw w2), zi_in hw (by omega), zgd, zt_w hw, zgS, (hW w hw).1, zi_cl w2]
    have h60 := (hk w hw).1
    rcases zr_in q (W w).length with ⟨i, hi, i2, rfl⟩ | h
    · rw [x_below hi (by omega), zbo, if_neg zl1n0, if_neg (zr_n hi i2), zi_cl i2]
      rcases zr_in r 4 with ⟨s, hs, s2, rfl⟩ | h
      · rw [x_isReg hs, zbo, if_neg zl1n0, if_neg (zr_n hs s2), zgd, zi_cl s2, zt_begun, zt_ended]
        obtain ⟨M1, e1, h1, k1⟩ := z_makeUnit (t := 100) zt_bl M
        have e0 : zq_one.2 = 0 := rfl
        have W1 := (hW w hw).fr k1.fr (by omega) (by omega)
        obtain ⟨M2, e2, h2, o2, b2, k2⟩ := w_applyRow (t := 100) (t1 := 13 + 2 * w) zt_bl (zt_wl hw) (by omega) (hk w hw).2 (a := 0) (b := i) (by omega) (by omega) W1 h1 zq_ok.one (by omega)
        rw [e1, zbo, zi_0, e2, zbo]
        obtain ⟨M3, e3, h3, k3⟩ := z_makeUnit (t := 102) zt_el M2
        have W3 := (W1.fr k2.fr (by omega) (by omega)).fr k3.fr (by omega) (by omega)
        rw [e3, zbo, zgS, W3.1, nI_1]
        obtain ⟨M4, e4, h4, o4, b4, k4⟩ := w_applyRow (t := 102) (t1 := 13 + 2 * w) zt_el (zt_wl hw) (by omega) (hk w hw).2 (a := i + 1) (b := (W w).length) (by omega) (by omega) W3 h3 zq_ok.one (by omega)
        rw [e4, zbo, zjn]
        have v2 : a_ar (W w) (min (W w).length i - 0) 0 zq_one = zq_val ((W w).take i) := by
          rw [a_ar_val _ 0 _ zq_ok.one.ls (by omega), zq_one_lm (zq_val_ls _), List.drop_zero, show min (W w).length i - 0 = i by omega]
        have v4 : a_ar (W w) (min (W w).length (W w).length - (i + 1)) (i + 1) zq_one = zq_val ((W w).drop (i + 1)) := by
          rw [a_ar_val _ (i + 1) _ zq_ok.one.ls (by omega), zq_one_lm (zq_val_ls _), List.take_of_length_le (by rw [List.length_drop]; omega)]
        rw [v2] at h2 o2 b2
        rw [v4] at h4 o4 b4
        have h2' := (h2.fr k3.fr (by omega) (by omega)).fr k4.fr (by omega) (by omega)
        have hC4 : zT M4 (5 + 2 * s) (6 + 2 * s) (R s) := ((((hC s hs).fr k1.fr (by omega) (by omega)).fr k2.fr (by omega) (by omega)).fr k3.fr (by omega) (by omega)).fr k4.fr (by omega) (by omega)
        have f4 : zfr zSB M M4 := (((k1.fr.mono (fun a ha => by unfold zSB; omega)).tr (k2.fr.mono (fun a ha => by unfold zSB; omega))).tr (k3.fr.mono (fun a ha => by unfold zSB; omega))).tr (k4.fr.mono (fun a ha => by unfold zSB; omega))
        have key := zinv3 (b := b_X9_fits_94 0 (nI s) qv_TT (fun v12 M13 => some (v12, M13))) (k := fun v12 M13 => some (v12, M13)) (fun g v N => v = a_fb (a_fe (R s) (W w) i) g ∧ zT N 100 101 (zq_val ((W w).take i)) ∧ zT N 102 103 (zq_val ((W w).drop (i + 1))) ∧ zT N (5 + 2 * s) (6 + 2 * s) (R s) ∧ zfr zSB M N) 0 7 (by omega) (fun g v N rr _ hg hN => ?_) (fun v N rr _ => ?_) qv_N (qv_N_gt _ (by omega)) 0 M4 ⟨rfl, h2', h4, hC4, f4⟩
        · obtain ⟨v1, N1, ⟨q1, -, -, -, q5⟩, q6⟩ := key
          refine ⟨N1, ?_, q5⟩
          rw [← q1]
          exact q6
        · obtain ⟨n1, n2, n3, n4, n5⟩ := hN
          unfold b_X9_fits_94
          rw [zl7, if_neg (zi_nle (a := 7) (b := g) (by omega) (by omega)), zt_trial, zt_begun, zt_work, zt_ended]
          obtain ⟨N1, c1, d1, g1⟩ := z_makeCopy (t := 104) zt_tl zt_bl n2
          rw [c1, zbo]
          obtain ⟨N2, c2, d2, g2⟩ := z_behind (t := 104) zt_tl d1 (zq_val_ls _) (zb_le (o2.bd 50 (by omega)) (by decide)) (by omega) hg
          rw [c2, zbo]
          have n3' := (n3.fr g1.fr (by omega) (by omega)).fr g2.fr (by omega) (by omega)
          obtain ⟨N3, c3, d3, g3⟩ := z_makeProduct (t := 98) zt_wk zt_tl zt_el (by omega) (by omega) d2 n3'
          rw [c3, zbo]
          have eg := zgt_e hg
          have ee := zlm_e (zq_val ((W w).take i)) (zq_gt g)
          have om := o2.mul (zq_ok.gt1 hg)
          obtain ⟨N4, c4, d4, g4⟩ := z_lower (t := 98) zt_wk d3 (zb_pm2 om o4 (by omega)) (show (zq_lm (zq_val ((W w).take i)) (zq_gt g)).2 + (zq_val ((W w).drop (i + 1))).2 < 1000 by omega)
          rw [c4, zbo, zi_in hs (by omega), zgd, zt_r hs]
          have n4' := (((n4.fr g1.fr (by omega) (by omega)).fr g2.fr (by omega) (by omega)).fr g3.fr (by omega) (by omega)).fr g4.fr (by omega) (by omega)
          have d4' : zT N4 98 99 (zq_val ((W w).set i g)) := by
            rw [a_set_val hi]
            exact d4
          have ov := om.mul o4
          have ev := zlm_e (zq_lm (zq_val ((W w).take i)) (zq_gt g)) (zq_val ((W w).drop (i + 1)))
          rw [← a_set_val hi] at ov ev
          have es := (hRk s hs).2
          have same := z_isSame zt_wk (zt_rl hs) d4' n4' (ov.b61 (by omega)) ((hRk s hs).1.b61 (by omega)) (by omega) (by omega)
          have fr : zfr zSB M N4 := (((n5.tr (g1.fr.mono (fun a ha => by unfold zSB; omega))).tr (g2.fr.mono (fun a ha => by unfold zSB; omega))).tr (g3.fr.mono (fun a ha => by unfold zSB; omega))).tr (g4.fr.mono (fun a ha => by unfold zSB; omega))
          have n2' := (((n2.fr g1.fr (by omega) (by omega)).fr g2.fr (by omega) (by omega)).fr g3.fr (by omega) (by omega)).fr g4.fr (by omega) (by omega)
          have n3'' := (n3'.fr g3.fr (by omega) (by omega)).fr g4.fr (by omega) (by omega)
          refine ⟨a_fb (a_fe (R s) (W w) i) (g + 1), N4, ⟨rfl, n2', n3'', n4', fr⟩, ?_⟩
          show _ = rr (a_fb (a_fe (R s) (W w) i) g ||| (if a_fe (R s) (W w) i g = true then 1 <<< (nI g &&& 31) else 0)) _ _
          by_cases c : zq_val ((W w).set i g) = R s
          · have cE : a_fe (R s) (W w) i g = true := by unfold a_fe; exact @decide_eq_true _ (Classical.propDecidable _) c
            rw [same.1 c, zbo, zjn, if_neg zl1n0, nI_1, n1, if_pos cE]
          · have cE : ¬ a_fe (R s) (W w) i g = true := by unfold a_fe; exact fun e => c (@of_decide_eq_true _ (Classical.propDecidable _) e)
            rw [same.2 c, zbo, zjn, if_pos rfl, nI_1, n1, if_neg cE, zor0]
        · unfold b_X9_fits_94
          rw [zl7, if_pos (nI_le (Nat.le_refl _) (by omega))]
      · rw [x_isReg0 h, zbo, if_pos rfl, if_pos h]
        exact ⟨M, rfl, zfr.rf _ _⟩
    · rw [x_below0 h (by omega), zbo, if_pos rfl, if_pos h]
      exact ⟨M, rfl, zfr.rf _ _⟩
  · rw [x_isWord0 h, zbo, if_pos rfl, if_pos h]
    exact ⟨M, rfl, zfr.rf _ _⟩
theorem a_ag_cg {G G2 : Nat → Nat} : ∀ (n i : Nat) (A : zq_T), (∀ j, i ≤ j → j < i + n → G j = G2 j) → a_ag G n i A = a_ag G2 n i A
  | 0, _, _, _ => rfl
  | n + 1, i, A, h => by
    show a_ag G n (i + 1) (zq_lm A (zq_gt (G i))) = a_ag G2 n (i + 1) (zq_lm A (zq_gt (G2 i)))
    rw [h i (Nat.le_refl _) (by omega)]
    exact a_ag_cg n (i + 1) _ (fun j h1 h2 => h j (by omega) (by omega))
theorem y_lim {n : Nat} (h : n ≤ 60) : ((nI n - 1).toInt64).toInt + 1 = n := by
  rw [Int32.toInt_toInt64]
  have : ∀ n, n ≤ 60 → (nI n - 1).toInt + 1 = n := by decide +kernel
  exact this n h
theorem y_fits {M : qv_Mem} {R : Nat → zq_T} {W : Nat → List Nat} (hC : zMR M R) (hK : zMC M) (hRk : zRk R) (hW : yW M W) (hk : zWk W) (p q r : Int32) : ∃ M1, f_X10_fits qv_TT 106 p q r M = some (a_fits R W p q r, M1) ∧ zMR M1 R ∧ zMC M1 ∧ zfr zSM M M1 := by
  unfold f_X10_fits a_fits
  rcases zr_in p 3 with ⟨w, hw, w2, rfl⟩ | h
  · have h60 := (hk w hw).1
    rw [y_isWord hw, zbo, if_neg zl1n0, if_neg (zr_n hw w2), zt_size, zi_ldI hw (by omega), (hW w hw).1, zi_cl w2]
    rcases zr_in q (W w).length with ⟨i, hi, i2, rfl⟩ | h
    · rw [y_in hi (by omega) (y_lim h60), zbo, if_neg zl1n0, if_neg (zr_n hi i2), zi_cl i2]
      rcases zr_in r 4 with ⟨s, hs, s2, rfl⟩ | h
      · rw [y_isReg hs, zbo, if_neg zl1n0, if_neg (zr_n hs s2), zi_cl s2, zjn, zi_0]
        have key := zinv3 (b := b_X10_fits_40 106 (nI w) (nI i) (nI s) qv_TT (fun v5 M6 => some (v5, M6))) (k := fun v5 M6 => some (v5, M6)) (fun g v N => v = a_fb (a_fe (R s) (W w) i) g ∧ yW N W ∧ zMC N ∧ zMR N R ∧ zfr zSM M N) 0 7 (by omega) (fun g v N rr _ hg hN => ?_) (fun v N rr _ => ?_) qv_N (qv_N_gt _ (by omega)) (nI 0) M ⟨rfl, hW, hK, hC, zfr.rf _ _⟩
        · obtain ⟨v1, N1, ⟨q1, -, q3, q4, q5⟩, q6⟩ := key
          refine ⟨N1, ?_, q4, q3, q5⟩
          rw [← q1]
          exact q6
        · obtain ⟨n1, n2, n3, n4, n5⟩ := hN
          unfold b_X10_fits_40
          rw [zl7, if_neg (zi_nle (a := 7) (b := g) (by omega) (by omega)), zl15, zl60]
          have gset : ∀ j, j < (W w).length → ((W w).set i g).getD j 0 = if j = i then g else (W w).getD j 0 := by
            intro j hj
            rw [List.getD_eq_getElem?_getD, List.getElem?_set]
            by_cases e : i = j
            · rw [if_pos e, if_pos hi, if_pos e.symm]
              rfl
            · rw [if_neg e, if_neg (fun q => e q.symm), List.getD_eq_getElem?_getD]
          obtain ⟨N1, c1, d1, o1, b1, g1⟩ := y_valueOf (s := 15) (w := w) (b := 60) (pl := nI i) (p5 := nI g) (W := W) (G := fun j => ((W w).set i g).getD j 0) (by omega) (by omega) hw (by omega) (fun j hj => by
            rw [gset j hj]
            by_cases e : j = i
            · rw [if_pos e, if_pos (by rw [e])]
            · rw [if_neg e, if_neg (fun q => e ((nI_eq (by omega) (by omega)).mp q))]) (fun j hj => by
            rw [gset j hj]
            split
            · exact hg
            · exact zg_get (hk w hw).2 j) n2 n3
          have ev : a_ag (fun j => ((W w).set i g).getD j 0) (min (W w).length 60) 0 zq_one = zq_val ((W w).set i g) := by
            rw [← a_ar_ag, a_ar_val _ 0 _ zq_ok.one.ls (by rw [List.length_set]; omega), zq_one_lm (zq_val_ls _), List.drop_zero, List.take_of_length_le (by rw [List.length_set]; omega)]
          rw [ev] at d1 o1 b1
          have es := (hRk s hs).2
          have n4' := n4.kept g1 (fun x _ => by omega)
          have same := y_areSame zt_tab (a := 15) (b := s) (by omega) (by omega) d1 (n4' s hs) (o1.b61 (by omega)) ((hRk s hs).1.b61 (by omega)) (by omega) (by omega)
          rw [c1, zbo]
          have W1 : yW N1 W := by
            unfold yW
            rw [g1.1]
            exact n2
          refine ⟨a_fb (a_fe (R s) (W w) i) (g + 1), N1, ⟨rfl, W1, n3.kept g1 (fun x _ _ => by omega), n4', n5.tr g1.fr⟩, ?_⟩
          show _ = rr (a_fb (a_fe (R s) (W w) i) g ||| (if a_fe (R s) (W w) i g = true then 1 <<< (nI g &&& 31) else 0)) _ _
          by_cases c : zq_val ((W w).set i g) = R s
          · have cE : a_fe (R s) (W w) i g = true := by unfold a_fe; exact @decide_eq_true _ (Classical.propDecidable _) c
            rw [same.1 c, zbo, zjn, if_neg zl1n0, nI_1, n1, if_pos cE]
          · have cE : ¬ a_fe (R s) (W w) i g = true := by unfold a_fe; exact fun e => c (@of_decide_eq_true _ (Classical.propDecidable _) e)
            rw [same.2 c, zbo, zjn, if_pos rfl, nI_1, n1, if_neg cE]
        · unfold b_X10_fits_40
          rw [zl7, if_pos (nI_le (Nat.le_refl _) (by omega))]
      · rw [y_isReg0 h, zbo, if_pos rfl, if_pos h]
        exact ⟨M, rfl, hC, hK, zfr.rf _ _⟩
    · rw [y_in0 h (y_lim h60), zbo, if_pos rfl, if_pos h]
      exact ⟨M, rfl, hC, hK, zfr.rf _ _⟩
  · rw [y_isWord0 h, zbo, if_pos rfl, if_pos h]
    exact ⟨M, rfl, hC, hK, zfr.rf _ _⟩
