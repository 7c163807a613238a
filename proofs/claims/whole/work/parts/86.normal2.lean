/-! normal: the class. -/
theorem zt_price_b : qv_rf qv_TT (qv_rf qv_TT 0 0) 2 = 4 := by rw [zt_bench, zt_price]
theorem zR_fr_c {M M1 : qv_Mem} (k : zow M M1 96 97) : zfr (fun a => a = 96 ∨ a = 97) M M1 := k.fr
theorem zClP.fr {M M1 : qv_Mem} {S : Nat → Prop} (h : zClP M) (f : zfr S M M1) (hS : ∀ a, 63 ≤ a → a ≤ 66 → ¬ S a) : zClP M1 := by
  have e1 := f.2.2 63 (hS _ (by omega) (by omega))
  have e2 := f.1 64 (hS _ (by omega) (by omega))
  have e3 := f.1 65 (hS _ (by omega) (by omega))
  have e4 := f.1 66 (hS _ (by omega) (by omega))
  unfold zClP zbh zlf at h ⊢
  rw [e1, e2, e3, e4]
  exact h
theorem zRn.fr {M M1 : qv_Mem} {P : Nat → Nat} {S : Nat → Prop} (h : zRn M P) (f : zfr S M M1) (hS : ∀ a, 69 ≤ a → a ≤ 70 → ¬ S a) : zRn M1 P := by
  unfold zRn pPg at h ⊢
  rw [f.1 69 (hS _ (by omega) (by omega)), f.1 70 (hS _ (by omega) (by omega))]
  exact h
theorem x_ac25 {P : Nat → Nat} (hP : zPk P) : ∀ (n k j f : Nat) (M : qv_Mem) (l : List Nat), n = Dr P k % 1024 → k < 192 → n < f → j + n < 1000 → zClP M → zRn M P → zR M 96 97 l → ∃ M1, zow M M1 96 97 ∧ (l.length + n ≤ 60 → qv_lp3 (b_X4_addCheapest_25 96 63 qv_TT (nI (j + n)) (fun M3 => some (1, M3))) f (nI k) (nI j) M = some (1, M1) ∧ zR M1 96 97 (l ++ cwd P n k)) ∧ (60 < l.length + n → qv_lp3 (b_X4_addCheapest_25 96 63 qv_TT (nI (j + n)) (fun M3 => some (1, M3))) f (nI k) (nI j) M = some (0, M1)) := by
  intro n
  induction n with
  | zero =>
    intro k j f M l hn hk hf hj hL hR h
    have h60 := h.2.1
    obtain ⟨f, rfl⟩ : ∃ g, f = g + 1 := ⟨f - 1, by omega⟩
    refine ⟨M, zow.rf _ _ _, fun _ => ⟨?_, ?_⟩, fun q => by omega⟩
    · show b_X4_addCheapest_25 96 63 qv_TT (nI (j + 0)) (fun M3 => some (1, M3)) (qv_lp3 (b_X4_addCheapest_25 96 63 qv_TT (nI (j + 0)) (fun M3 => some (1, M3))) f) (nI k) (nI j) M = _
      unfold b_X4_addCheapest_25
      rw [if_pos (nI_le (by omega) (by omega))]
    · rw [show l ++ cwd P 0 k = l by simp [cwd]]
      exact h
  | succ n ih =>
    intro k j f M l hn hk hf hj hL hR h
    have h60 := h.2.1
    obtain ⟨f, rfl⟩ : ∃ g, f = g + 1 := ⟨f - 1, by omega⟩
    have h0 : k ≠ 0 := fun e => by
      rw [e, Dr_0] at hn
      omega
    obtain ⟨f1, -⟩ := fg_in (P := P) hk h0
    have fl := fg_len (P := P) hk h0
    have g7 := pgs_lt f1
    have ll := (cl_lef hk f1).2
    have ez : zsn (fg P k) = nI (fg P k) := by unfold zsn; rw [if_pos g7]
    have ih1 := fun M l => ih (lef k (fg P k)) (j + 1) f M l (by omega) ll (by omega) (by omega)
    rw [show j + 1 + n = j + (n + 1) by omega] at ih1
    show ∃ M1, zow M M1 96 97 ∧ (_ → b_X4_addCheapest_25 96 63 qv_TT (nI (j + (n + 1))) (fun M3 => some (1, M3)) (qv_lp3 (b_X4_addCheapest_25 96 63 qv_TT (nI (j + (n + 1))) (fun M3 => some (1, M3))) f) (nI k) (nI j) M = _ ∧ _) ∧ (_ → b_X4_addCheapest_25 96 63 qv_TT (nI (j + (n + 1))) (fun M3 => some (1, M3)) (qv_lp3 (b_X4_addCheapest_25 96 63 qv_TT (nI (j + (n + 1))) (fun M3 => some (1, M3))) f) (nI k) (nI j) M = _)
    generalize qv_lp3 (b_X4_addCheapest_25 96 63 qv_TT (nI (j + (n + 1))) (fun M3 => some (1, M3))) f = rr at ih1 ⊢
    unfold b_X4_addCheapest_25
    rw [if_neg (nI_ge (show j < j + (n + 1) by omega) (by omega)), x_first hP hR hL hk, ez, zbo]
    by_cases c : l.length < 60
    · obtain ⟨M1, e1, h1, k1⟩ := (w_add1 h (fg P k)).1 c
      have hL1 := hL.fr k1.fr (fun a _ _ => by omega)
      have hR1 := hR.fr k1.fr (fun a _ _ => by omega)
      rw [e1, zbp, if_neg zl1n0, x_rest hP hR1 hL1 hk h0, zbo, nI_1]
      obtain ⟨M2, k2, r1, r2⟩ := ih1 M1 (l ++ [fg P k]) hL1 hR1 h1
      rw [List.length_append, List.length_singleton] at r1 r2
      refine ⟨M2, k1.tr k2, fun q => ?_, fun q => r2 (by omega)⟩
      have := r1 (by omega)
      rw [List.append_assoc] at this
      exact this
    · refine ⟨M, zow.rf _ _ _, fun q => by omega, fun _ => ?_⟩
      rw [(w_add1 h _).2 (by omega), zbp, if_pos rfl]
theorem x_addCheapest {P : Nat → Nat} (hP : zPk P) {M : qv_Mem} {l : List Nat} {B : zq_T} (hL : zClP M) (hR : zRn M P) (h : zR M 96 97 l) (hB : zT M 83 84 B) (oB : zq_ok B) (fB : fA B = 0) : ∃ M1, zow M M1 96 97 ∧ (l.length + (cw P (cno B)).length ≤ 60 → f_X4_addCheapest qv_TT 82 96 63 M = some (1, M1) ∧ zR M1 96 97 (l ++ cw P (cno B))) ∧ (60 < l.length + (cw P (cno B)).length → f_X4_addCheapest qv_TT 82 96 63 M = some (0, M1)) := by
  obtain ⟨k1, k2⟩ := cno_spec oB fB
  generalize cno B = k at k1 k2 ⊢
  have hE := (cl_key k1).2.2
  have a := Dr_lt hP k1
  have b := Dr_cl P k1
  rw [← k2] at hB
  have hl : (cw P k).length = Dr P k % 1024 := cwd_len _ _ _
  rw [hl]
  unfold f_X4_addCheapest f_X2_lengthOf
  rw [zt_nm.1, x_find zt_nm.2.2.2.1 hL hB (zb_le (cl_b k1) (by decide)) (by omega), zbo, cix_in (Nat.le_refl _) k1 rfl, if_pos (nI_pos' (by omega)), zt_cl.2.2.2.2.2.1, zi_ldI k1 (by omega), hR.2 k k1, show (1024 : Int32) = nI 1024 from rfl, zi_mod (by omega) (by omega) (by omega), zbo, zjn, zi_0]
  obtain ⟨M1, q1, q2, q3⟩ := x_ac25 hP (Dr P k % 1024) k 0 qv_N M l rfl k1 (qv_N_gt _ (by omega)) (by omega) hL hR h
  rw [Nat.zero_add] at q2 q3
  exact ⟨M1, q1, q2, q3⟩
noncomputable def x_k7 (v5 : Int32) (M6 : qv_Mem) : Option (Int32 × qv_Mem) := (if v5 = 0 then qv_bp (f_X4_addCheapest qv_TT 82 96 63 M6) (fun v8 M9 => (if v8 = 0 then some (0, M9) else some (1, M9))) else some (0, M6))
def zSO (a : Nat) : Prop := 83 ≤ a ∧ a ≤ 97
theorem x_fm36 {P : Nat → Nat} (hP : zPk P) : ∀ (c i f : Nat) (M : qv_Mem) (l : List Nat) (A : zq_T), fA A = c → c ≤ 82 → zq_ok A → i ≤ l.length → i ≤ 60 → 60 - i < f → zClP M → zRn M P → zR M 96 97 l → zT M 83 84 A → ∃ M1, zfr zSO M M1 ∧ (l.length + (nfw P c A).length ≤ 60 → qv_lp3 (b_X4_form_36 82 96 qv_TT x_k7) f (nI c) (nI i) M = some (1, M1) ∧ zR M1 96 97 (l ++ nfw P c A)) ∧ (60 < l.length + (nfw P c A).length → qv_lp3 (b_X4_form_36 82 96 qv_TT x_k7) f (nI c) (nI i) M = some (0, M1)) := by
  intro c
  induction c with
  | zero =>
    intro i f M l A hc hc2 oA hi hi2 hf hL hR h hA
    obtain ⟨f, rfl⟩ : ∃ g, f = g + 1 := ⟨f - 1, by omega⟩
    obtain ⟨M1, q1, q2, q3⟩ := x_addCheapest hP hL hR h hA oA hc
    have st : qv_lp3 (b_X4_form_36 82 96 qv_TT x_k7) (f + 1) (nI 0) (nI i) M = x_k7 (nI 0) M := by
      show b_X4_form_36 82 96 qv_TT x_k7 (qv_lp3 (b_X4_form_36 82 96 qv_TT x_k7) f) (nI 0) (nI i) M = _
      unfold b_X4_form_36
      by_cases d : (60 : Int32) ≤ nI i
      · rw [if_pos d]
      · rw [if_neg d, if_pos (by decide)]
    have en : nfw P 0 A = cw P (cno A) := by unfold nfw nf; rfl
    rw [st, en]
    unfold x_k7
    rw [if_pos (show nI 0 = (0 : Int32) from rfl)]
    refine ⟨M1, q1.fr.mono (fun a ha => by unfold zSO; omega), fun z => ?_, fun z => ?_⟩
    · have := q2 z
      rw [this.1, zbp, if_neg zl1n0]
      exact ⟨rfl, this.2⟩
    · rw [q3 z, zbp, if_pos rfl]
  | succ c ih =>
    intro i f M l A hc hc2 oA hi hi2 hf hL hR h hA
    obtain ⟨f, rfl⟩ : ∃ g, f = g + 1 := ⟨f - 1, by omega⟩
    have h60 := h.2.1
    have eE := f_e oA
    have eE2 : (chA A).2 = c + 1 := hc
    have ln : c + 1 ≤ (nfw P (c + 1) A).length := by
      unfold nfw
      rw [List.length_append]
      have := nf_len (c + 1) A
      omega
    have ih1 := ih (i + 1) f
    show ∃ M1, zfr zSO M M1 ∧ (_ → b_X4_form_36 82 96 qv_TT x_k7 (qv_lp3 (b_X4_form_36 82 96 qv_TT x_k7) f) (nI (c + 1)) (nI i) M = _ ∧ _) ∧ (_ → b_X4_form_36 82 96 qv_TT x_k7 (qv_lp3 (b_X4_form_36 82 96 qv_TT x_k7) f) (nI (c + 1)) (nI i) M = _)
    generalize qv_lp3 (b_X4_form_36 82 96 qv_TT x_k7) f = rr at ih1 ⊢
    unfold b_X4_form_36
    by_cases d : i = 60
    · rw [zl60, if_pos (nI_le (by omega) (by omega))]
      refine ⟨M, zfr.rf _ _, fun z => by omega, fun _ => ?_⟩
      unfold x_k7
      rw [if_neg (nI_ne0 (by omega) (by omega))]
    · rw [zl60, if_neg (zi_nle (a := 60) (b := i) (by omega) (by omega)), if_neg (show ¬ nI (c + 1) ≤ 0 from zi_nle (a := c + 1) (b := 0) (by omega) (by omega))]
      obtain ⟨M1, e1, a1, b1, f1⟩ := x_findSyllable hA oA (by omega) (by omega)
      rw [hc] at e1
      have h1 := h.fr f1 (by unfold zSN; omega) (by unfold zSN; omega)
      obtain ⟨M2, k2, r1, r2⟩ := x_addSyllable h1 (ci_lt A)
      have cl := ci_lt A
      rw [e1, zbp, if_neg (nI_pos (by omega))]
      have f12 : zfr zSO M M2 := (f1.mono (fun a ha => by unfold zSN at ha; unfold zSO; omega)).tr (k2.fr.mono (fun a ha => by unfold zSO; omega))
      have en : nfw P (c + 1) A = sy (ci A) ++ nfw P c (rem (ci A) A) := by
        unfold nfw
        show (sy (ci A) ++ (nf c (rem (ci A) A)).1) ++ _ = _
        rw [List.append_assoc]
        rfl
      rw [en, List.length_append]
      by_cases q : l.length + (sy (ci A)).length ≤ 60
      · obtain ⟨e2, h2⟩ := r1 q
        have b2 := b1.fr k2.fr (by omega) (by omega)
        obtain ⟨M3, e3, h3, k3⟩ := z_makeCopy (t := 83) zt_nm.2.2.2.1 zt_nm.2.2.2.2.1 b2
        rw [e2, zbp, if_neg zl1n0, zt_nm.1, zt_nm.2.1, e3, zbo, nI_1]
        have em : nI (c + 1) + (-1) = nI c := by
          rw [← zi_ps c]
          generalize nI (c + 1) = x
          grind
        rw [em]
        have sf := ci_f oA (by omega)
        have hL3 := ((hL.fr f1 (fun a _ _ => by unfold zSN; omega)).fr k2.fr (fun a _ _ => by omega)).fr k3.fr (fun a _ _ => by omega)
        have hR3 := ((hR.fr f1 (fun a _ _ => by unfold zSN; omega)).fr k2.fr (fun a _ _ => by omega)).fr k3.fr (fun a _ _ => by omega)
        have sl := (sy_len (ci A)).1
        obtain ⟨M4, k4, s1, s2⟩ := ih1 M3 (l ++ sy (ci A)) (rem (ci A) A) (by omega) (by omega) (rem_ok oA _) (by rw [List.length_append]; omega) (by omega) (by omega) hL3 hR3 (h2.fr k3.fr (by omega) (by omega)) h3
        rw [List.length_append] at s1 s2
        refine ⟨M4, (f12.tr (k3.fr.mono (fun a ha => by unfold zSO; omega))).tr k4, fun z => ?_, fun z => s2 (by omega)⟩
        have := s1 (by omega)
        rw [List.append_assoc] at this
        exact this
      · refine ⟨M2, f12, fun z => by omega, fun _ => ?_⟩
        rw [r2 (by omega), zbp, if_pos rfl]
theorem x_form {P : Nat → Nat} (hP : zPk P) {M : qv_Mem} {A : zq_T} {r : Nat} (hr : r < 4) (hA : zT M (5 + 2 * r) (6 + 2 * r) A) (oA : zq_ok A) (eA : A.2 ≤ 40) (hL : zClP M) (hR : zRn M P) : ∃ M1, zfr zSO M M1 ∧ ((nfw P (fA A) A).length ≤ 60 → f_X4_form qv_TT 82 (5 + 2 * r) 63 96 M = some (1, M1) ∧ zR M1 96 97 (nfw P (fA A) A)) ∧ (60 < (nfw P (fA A) A).length → f_X4_form qv_TT 82 (5 + 2 * r) 63 96 M = some (0, M1)) := by
  unfold f_X4_form
  rw [zpS, zt_nm.1, zt_nm.2.2.1, zi_0]
  have f0 : zfr (fun a => a = 96 ∨ a = 97) M (qv_upS M 96 1 (nI 0)) := (zow_S M 96 97 (nI 0)).fr
  have h0 : zR (qv_upS M 96 1 (nI 0)) 96 97 [] := ⟨zs_at _ _ _ _, Nat.zero_le _, fun i hi => (by cases hi)⟩
  obtain ⟨M2, e2, h2, k2⟩ := z_makeCopy (t := 83) zt_nm.2.2.2.1 (zt_rl hr) (hA.fr f0 (by omega) (by omega))
  obtain ⟨M3, e3, h3, f3, k3⟩ := x_makeOf (t := 87) (Or.inr rfl) zt_nm.2.2.2.1 (by omega) (by omega) h2 oA (by omega)
  have fl := fA_le A
  have f3' : M3.2.2 87 2 = nI (fA A) := f3
  rw [e2, zbo, e3, zbo, zgS, f3', zjn]
  have hL3 := ((hL.fr f0 (fun a _ _ => by omega)).fr k2.fr (fun a _ _ => by omega)).fr k3 (fun a _ _ => by omega)
  have hR3 := ((hR.fr f0 (fun a _ _ => by omega)).fr k2.fr (fun a _ _ => by omega)).fr k3 (fun a _ _ => by omega)
  obtain ⟨M4, k4, s1, s2⟩ := x_fm36 hP (fA A) 0 qv_N M3 [] A rfl (by omega) oA (Nat.zero_le _) (by omega) (qv_N_gt _ (by omega)) hL3 hR3 ((h0.fr k2.fr (by omega) (by omega)).fr k3 (by omega) (by omega)) (h2.fr k3 (by omega) (by omega))
  rw [show ([] : List Nat).length = 0 from rfl, Nat.zero_add, List.nil_append] at s1
  rw [show ([] : List Nat).length = 0 from rfl, Nat.zero_add] at s2
  exact ⟨M4, (((f0.mono (fun a ha => by unfold zSO; omega)).tr (k2.fr.mono (fun a ha => by unfold zSO; omega))).tr (k3.mono (fun a ha => by unfold zSO; omega))).tr k4, s1, s2⟩
def zSL (a : Nat) : Prop := zSc a ∨ zSO a ∨ zSW a
theorem zCW.fo {M M1 : qv_Mem} {W : Nat → List Nat} (h : zCW M W) (k : zfr zSO M M1) : zCW M1 W := h.fr k (fun a _ _ => by unfold zSO; omega)
theorem x_normal {M : qv_Mem} {R : Nat → zq_T} {W : Nat → List Nat} {P : Nat → Nat} {Hs : List (Nat × List Nat)} (hC : zCR M R) (hRk : zRk R) (hW : zCW M W) (hk : zWk W) (hH : zH M Hs) (hk9 : zPk P) (hP : zCP M P) (hL : zCl M) (hS : zRs M) (p q : Int32) : ∃ M1, f_X9_normal qv_TT 0 p q M = some ((a_normal R W P Hs p q).1, M1) ∧ zCW M1 (a_normal R W P Hs p q).2.1 ∧ zH M1 (a_normal R W P Hs p q).2.2 ∧ zCl M1 ∧ zRs M1 ∧ zfr zSL M M1 := by
  unfold f_X9_normal a_normal
  rcases zr_in p 3 with ⟨w, hw, w2, rfl⟩ | h
  · rw [x_isWord hw, zbo, if_neg zl1n0, if_neg (zr_n hw w2)]
    rcases zr_in q 4 with ⟨r, hr, r2, rfl⟩ | h
    · rw [x_isReg hr, zbo, if_neg zl1n0, if_neg (zr_n hr r2), zt_cl.2.2.2.2.2.2.2.2.2, zt_price_b, zt_r hr, zi_cl w2, zi_cl r2]
      obtain ⟨N, e1, h1, h2, h3, f1⟩ := x_rankBy hk9 hP hL hS
      have hA : zT N (5 + 2 * r) (6 + 2 * r) (R r) := (hC r hr).fr f1 (by unfold zSc; omega) (by unfold zSc; omega)
      obtain ⟨M1, k1, s1, s2⟩ := x_form hk9 hr hA (hRk r hr).1 (hRk r hr).2 h1 h2
      rw [e1, zbo, zi_in hr (by omega), zgd, zt_nm.2.2.2.2.2, zt_draft]
      have hL1 := h1.fr k1 (fun a _ _ => by unfold zSO; omega)
      have hR1 := h2.fr k1 (fun a _ _ => by unfold zSO; omega)
      have s9 : M1.2.2 63 9 = 1 := by rw [k1.2.2 63 (by unfold zSO; omega)]; exact h3
      have hW1 := (hW.fr f1 (fun a _ _ => by unfold zSc; omega)).fo k1
      have hH1 := (hH.fr f1 (fun a _ _ => by unfold zSc; omega)).fr k1 (fun a _ _ => by unfold zSO; omega)
      have fr1 : zfr zSL M M1 := (f1.mono (fun a ha => Or.inl ha)).tr (k1.mono (fun a ha => Or.inr (Or.inl ha)))
      by_cases c : (nfw P (fA (R r)) (R r)).length ≤ 60
      · obtain ⟨e2, h4⟩ := s1 c
        rw [if_pos c, e2, zbp, if_neg zl1n0]
        obtain ⟨M2, e3, g1, g2, k2⟩ := x_settleW hW1 hk hH1 hw h4 (nfw_lt (hRk r hr).1)
        rw [e3, zbp]
        exact ⟨M2, rfl, g1, g2, Or.inr (hL1.fr k2 (fun a _ _ => by unfold zSW; omega)), (hR1.fr k2 (fun a _ _ => by unfold zSW; omega)).rs hk9 (by rw [k2.2.2 63 (by unfold zSW; omega)]; exact s9), fr1.tr (k2.mono (fun a ha => Or.inr (Or.inr ha)))⟩
      · rw [if_neg c, s2 (by omega), zbp, if_pos rfl]
        exact ⟨M1, rfl, hW1, hH1, Or.inr hL1, hR1.rs hk9 s9, fr1⟩
    · rw [x_isReg0 h, zbo, if_pos rfl, if_pos h]
      exact ⟨M, rfl, hW, hH, hL, hS, zfr.rf _ _⟩
  · rw [x_isWord0 h, zbo, if_pos rfl, if_pos h]
    exact ⟨M, rfl, hW, hH, hL, hS, zfr.rf _ _⟩
