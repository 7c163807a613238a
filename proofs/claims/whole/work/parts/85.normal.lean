/-! normal: what it comes to; the class. -/
abbrev fA (A : zq_T) : Nat := (chA A).2
def sy (i : Nat) : List Nat := if i = 0 then [1] else if i = 1 then [0, 1] else [2, 0, 1]
def ci (A : zq_T) : Nat := if fA (rem 0 A) + 1 = fA A then 0 else if fA (rem 1 A) + 1 = fA A then 1 else 2
theorem rem_ok {A : zq_T} (h : zq_ok A) (i : Nat) : zq_ok (rem i A) := by
  have u := zq_ok.gt1 (show 6 < 7 by omega)
  have hh := zq_ok.gt1 (show 0 < 7 by omega)
  have s := (zq_ok.gt1 (show 2 < 7 by omega)).ct
  unfold rem
  split
  · exact u.mul h
  · split
    · exact u.mul (hh.mul h)
    · exact u.mul (hh.mul (s.mul h))
theorem ci_lt (A : zq_T) : ci A < 3 := by
  unfold ci
  split
  · omega
  · split <;> omega
theorem ci_f {A : zq_T} (h : zq_ok A) (hf : 0 < fA A) : fA (rem (ci A) A) + 1 = fA A := by
  unfold ci
  rcases f_rem h hf with q | q | q
  · rw [if_pos q]; exact q
  · by_cases c : fA (rem 0 A) + 1 = fA A
    · rw [if_pos c]; exact c
    · rw [if_neg c, if_pos q]; exact q
  · by_cases c : fA (rem 0 A) + 1 = fA A
    · rw [if_pos c]; exact c
    · rw [if_neg c]
      by_cases d : fA (rem 1 A) + 1 = fA A
      · rw [if_pos d]; exact d
      · rw [if_neg d]; exact q
def nf : Nat → zq_T → List Nat × zq_T
  | 0, A => ([], A)
  | n + 1, A => (sy (ci A) ++ (nf n (rem (ci A) A)).1, (nf n (rem (ci A) A)).2)
theorem nf_ok : ∀ (n : Nat) (A : zq_T), zq_ok A → fA A = n → zq_ok (nf n A).2 ∧ fA (nf n A).2 = 0
  | 0, A, h, hf => ⟨h, hf⟩
  | n + 1, A, h, hf => nf_ok n (rem (ci A) A) (rem_ok h _) (by have := ci_f h (by omega); omega)
theorem sy_len (i : Nat) : 1 ≤ (sy i).length ∧ (sy i).length ≤ 3 ∧ ∀ g ∈ sy i, g < 7 := by
  unfold sy
  split
  · decide
  · split <;> decide
theorem nf_lt : ∀ (n : Nat) (A : zq_T), ∀ g ∈ (nf n A).1, g < 7
  | 0, _ => fun g hg => (by cases hg)
  | n + 1, A => fun g hg => by
    rcases List.mem_append.mp hg with q | q
    · exact (sy_len _).2.2 g q
    · exact nf_lt n _ g q
theorem nf_len : ∀ (n : Nat) (A : zq_T), n ≤ (nf n A).1.length
  | 0, _ => Nat.zero_le _
  | n + 1, A => by
    show n + 1 ≤ (sy (ci A) ++ (nf n (rem (ci A) A)).1).length
    rw [List.length_append]
    have := nf_len n (rem (ci A) A)
    have := (sy_len (ci A)).1
    omega
noncomputable def cno (B : zq_T) : Nat := @Classical.epsilon _ ⟨0⟩ (fun k => k < 192 ∧ CL k = B)
theorem cno_spec {B : zq_T} (h : zq_ok B) (hf : fA B = 0) : cno B < 192 ∧ CL (cno B) = B := by
  obtain ⟨k, hk, e⟩ := f_0 h hf
  exact @Classical.epsilon_spec_aux _ ⟨0⟩ (fun k => k < 192 ∧ CL k = B) ⟨k, hk, e.symm⟩
noncomputable def nfw (P : Nat → Nat) (c : Nat) (A : zq_T) : List Nat := (nf c A).1 ++ cw P (cno (nf c A).2)
theorem cw_lt {P : Nat → Nat} {k : Nat} (hk : k < 192) : ∀ g ∈ cw P k, g < 7 := fun g hg => pgs_lt (cwd_ok _ k hk rfl g hg)
theorem nfw_lt {P : Nat → Nat} {A : zq_T} (h : zq_ok A) : ∀ g ∈ nfw P (fA A) A, g < 7 := by
  obtain ⟨o1, o2⟩ := nf_ok (fA A) A h rfl
  intro g hg
  rcases List.mem_append.mp hg with q | q
  · exact nf_lt _ _ g q
  · exact cw_lt (cno_spec o1 o2).1 g q
noncomputable def a_normal (R : Nat → zq_T) (W : Nat → List Nat) (P : Nat → Nat) (Hs : List (Nat × List Nat)) (p q : Int32) : zWH := if zr p 3 then (-1, W, Hs) else if zr q 4 then (-1, W, Hs) else if (nfw P (fA (R q.toNatClampNeg)) (R q.toNatClampNeg)).length ≤ 60 then a_bec W Hs p.toNatClampNeg (nfw P (fA (R q.toNatClampNeg)) (R q.toNatClampNeg)) else (-3, W, Hs)
theorem a_normal_k {R : Nat → zq_T} {W : Nat → List Nat} {P : Nat → Nat} {Hs : List (Nat × List Nat)} (hR : zRk R) (hk : zWk W) (hH : zHk Hs) (p q : Int32) : zWk (a_normal R W P Hs p q).2.1 ∧ zHk (a_normal R W P Hs p q).2.2 := by
  unfold a_normal
  rcases zr_in p 3 with ⟨w, hw, w2, rfl⟩ | h
  · rw [if_neg (zr_n hw w2)]
    rcases zr_in q 4 with ⟨r, hr, r2, rfl⟩ | h
    · rw [if_neg (zr_n hr r2), zi_cl r2, zi_cl w2]
      split
      · rename_i c
        exact a_bec_k hk hH hw c (nfw_lt (hR r hr).1)
      · exact ⟨hk, hH⟩
    · rw [if_pos h]; exact ⟨hk, hH⟩
  · rw [if_pos h]; exact ⟨hk, hH⟩
theorem fA_le (A : zq_T) : fA A ≤ 2 * A.2 + 2 := chl_f _ _
/-! the class -/
theorem zt_nm : qv_rf qv_TT 82 0 = 83 ∧ qv_rf qv_TT 82 1 = 85 ∧ qv_rf qv_TT 82 2 = 87 ∧ qv_rf qv_TT 83 0 = 84 ∧ qv_rf qv_TT 85 0 = 86 ∧ qv_rf qv_TT 0 8 = 82 := by decide +kernel
theorem ct2 : zq_lm (zq_gt 4) (zq_gt 2) = zq_ct (zq_gt 2) := zq_dec (by decide +kernel)
theorem ahd {M : qv_Mem} {A : zq_T} {g : Nat} (h : zT M 85 86 A) (o : zq_ok A) (e : A.2 ≤ 47) (hg : g < 7) : ∃ M1, f_X7_applyAhead qv_TT 85 (nI g) M = some M1 ∧ zT M1 85 86 (zq_lm (zq_gt g) A) ∧ zq_ok (zq_lm (zq_gt g) A) ∧ (zq_lm (zq_gt g) A).2 ≤ A.2 + (if g = 0 then 1 else 0) ∧ zo M M1 85 86 := by
  obtain ⟨M1, e1, h1, k1⟩ := z_ahead (t := 85) zt_nm.2.2.2.2.1 h o.ls (zb_le (o.bd 50 (by omega)) (by decide)) (by omega) hg
  refine ⟨M1, e1, h1, (zq_ok.gt1 hg).mul o, ?_, k1⟩
  have b := zlm_e (zq_gt g) A
  by_cases c : g = 0
  · have := zgt_e hg
    rw [if_pos c]
    omega
  · have := zg_e c hg
    rw [if_neg c]
    omega
theorem x_takeAway {M : qv_Mem} {A : zq_T} (h : zT M 85 86 A) (o : zq_ok A) (e : A.2 ≤ 44) {i : Nat} (hi : i < 3) : ∃ M1, f_X4_takeAway qv_TT 82 (nI i) M = some M1 ∧ zT M1 85 86 (rem i A) ∧ (rem i A).2 ≤ A.2 + 1 ∧ zo M M1 85 86 := by
  unfold f_X4_takeAway
  rw [zt_nm.2.1]
  match i, hi with
  | 0, _ =>
    obtain ⟨M1, e1, h1, o1, b1, k1⟩ := ahd h o (by omega) (show 6 < 7 by omega)
    rw [zjn, if_neg (by decide)]
    dsimp only
    rw [zjn, if_pos (by decide)]
    dsimp only
    rw [zl6, e1, zbo]
    exact ⟨M1, rfl, h1, by rw [if_neg (by omega)] at b1; exact Nat.le_succ_of_le b1, k1⟩
  | 1, _ =>
    obtain ⟨M1, e1, h1, o1, b1, k1⟩ := ahd h o (by omega) (show 0 < 7 by omega)
    rw [if_pos rfl] at b1
    obtain ⟨M2, e2, h2, o2, b2, k2⟩ := ahd h1 o1 (by omega) (show 6 < 7 by omega)
    rw [if_neg (by omega)] at b2
    rw [zjn, if_neg (by decide)]
    dsimp only
    rw [zjn, if_neg (by decide), zi_0, e1, zbo]
    dsimp only
    rw [zl6, e2, zbo]
    exact ⟨M2, rfl, h2, Nat.le_trans b2 (by omega), k1.tr k2⟩
  | 2, _ =>
    obtain ⟨M1, e1, h1, o1, b1, k1⟩ := ahd h o (by omega) (show 2 < 7 by omega)
    rw [if_neg (by omega)] at b1
    obtain ⟨M2, e2, h2, o2, b2, k2⟩ := ahd h1 o1 (by omega) (show 4 < 7 by omega)
    rw [if_neg (by omega)] at b2
    obtain ⟨M3, e3, h3, o3, b3, k3⟩ := ahd h2 o2 (by omega) (show 0 < 7 by omega)
    rw [if_pos rfl] at b3
    obtain ⟨M4, e4, h4, o4, b4, k4⟩ := ahd h3 o3 (by omega) (show 6 < 7 by omega)
    rw [if_neg (by omega)] at b4
    rw [zjn, if_pos (by decide), zl2i, e1, zbo, zl4, e2, zbo]
    dsimp only
    rw [zjn, if_neg (by decide), zi_0, e3, zbo]
    dsimp only
    rw [zl6, e4, zbo]
    have q : zq_lm (zq_gt 4) (zq_lm (zq_gt 2) A) = zq_lm (zq_ct (zq_gt 2)) A := by rw [← zq_lm_assoc, ct2]
    rw [q] at h4 b4 b3 b2
    exact ⟨M4, rfl, h4, Nat.le_trans b4 (by omega), ((k1.tr k2).tr k3).tr k4⟩
  | i + 3, hi => omega
def zSN (a : Nat) : Prop := 85 ≤ a ∧ a ≤ 95
theorem x_fs_step {M : qv_Mem} {A : zq_T} (h : zT M 83 84 A) (o : zq_ok A) (e : A.2 ≤ 44) {c i : Nat} (hc : 0 < c) (hc2 : c < 1000) (hi : i < 3) (k : qv_Mem → Option (Int32 × qv_Mem)) (r : Int32 → qv_Mem → Option (Int32 × qv_Mem)) : ∃ M1, b_X4_findSyllable_2 82 (nI c) qv_TT k r (nI i) M = (if fA (rem i A) + 1 = c then some (nI i, M1) else r (nI (i + 1)) M1) ∧ zT M1 83 84 A ∧ zT M1 85 86 (rem i A) ∧ zfr zSN M M1 := by
  unfold b_X4_findSyllable_2
  rw [zl3, if_neg (zi_nle (a := 3) (b := i) (by omega) (by omega)), zt_nm.1, zt_nm.2.1, zt_nm.2.2.1]
  obtain ⟨M1, e1, h1, k1⟩ := z_makeCopy (t := 85) zt_nm.2.2.2.2.1 zt_nm.2.2.2.1 h
  obtain ⟨M2, e2, h2, b2, k2⟩ := x_takeAway h1 o e hi
  obtain ⟨M3, e3, h3, f3, k3⟩ := x_makeOf (t := 87) (Or.inr rfl) zt_nm.2.2.2.2.1 (by omega) (by omega) h2 (rem_ok o i) (by omega)
  have hl : fA (rem i A) < 1000 := by have := fA_le (rem i A); omega
  have f3' : M3.2.2 87 2 = nI (fA (rem i A)) := f3
  rw [e1, zbo, e2, zbo, e3, zbo, zgS, f3', zl1i, zi_sub (by omega) (by omega), nI_add]
  refine ⟨M3, ?_, ((h.fr k1.fr (by omega) (by omega)).fr k2.fr (by omega) (by omega)).fr k3 (by omega) (by omega), h2.fr k3 (by omega) (by omega), ((k1.fr.mono (fun a ha => by unfold zSN; omega)).tr (k2.fr.mono (fun a ha => by unfold zSN; omega))).tr (k3.mono (fun a ha => by unfold zSN; omega))⟩
  by_cases c1 : fA (rem i A) + 1 = c
  · rw [if_pos c1, if_pos (by rw [show c - 1 = fA (rem i A) by omega])]
  · rw [if_neg c1, if_neg (fun z => c1 (by
      have := (nI_eq (a := fA (rem i A)) (b := c - 1) (by omega) (by omega)).mp z
      omega))]
theorem x_findSyllable {M : qv_Mem} {A : zq_T} (h : zT M 83 84 A) (o : zq_ok A) (e : A.2 ≤ 44) (hc : 0 < fA A) : ∃ M1, f_X4_findSyllable qv_TT 82 (nI (fA A)) M = some (nI (ci A), M1) ∧ zT M1 83 84 A ∧ zT M1 85 86 (rem (ci A) A) ∧ zfr zSN M M1 := by
  have hl : fA A < 1000 := by have := fA_le A; omega
  unfold f_X4_findSyllable
  rw [zjn, zi_0]
  obtain ⟨f, hf⟩ : ∃ f, qv_N = f + 1 + 1 + 1 := ⟨qv_N - 3, by have := qv_N_gt 5 (by omega); omega⟩
  rw [hf, zN2]
  obtain ⟨M1, e1, a1, b1, f1⟩ := x_fs_step h o e hc hl (i := 0) (by omega) (fun M1 => some ((-2), M1)) (qv_lp2 (b_X4_findSyllable_2 82 (nI (fA A)) qv_TT (fun M1 => some ((-2), M1))) (f + 1 + 1))
  rw [e1]
  have s := ci_f o hc
  unfold ci at s ⊢
  by_cases c0 : fA (rem 0 A) + 1 = fA A
  · rw [if_pos c0, if_pos c0]
    exact ⟨M1, rfl, a1, b1, f1⟩
  · rw [if_neg c0] at s
    rw [if_neg c0, if_neg c0, zN2]
    obtain ⟨M2, e2, a2, b2, f2⟩ := x_fs_step a1 o e hc hl (i := 0 + 1) (by omega) (fun M1 => some ((-2), M1)) (qv_lp2 (b_X4_findSyllable_2 82 (nI (fA A)) qv_TT (fun M1 => some ((-2), M1))) (f + 1))
    rw [e2]
    by_cases c1 : fA (rem 1 A) + 1 = fA A
    · rw [if_pos c1, if_pos c1]
      exact ⟨M2, rfl, a2, b2, f1.tr f2⟩
    · rw [if_neg c1] at s
      rw [if_neg c1, if_neg c1, zN2]
      obtain ⟨M3, e3, a3, b3, f3⟩ := x_fs_step a2 o e hc hl (i := 0 + 1 + 1) (by omega) (fun M1 => some ((-2), M1)) (qv_lp2 (b_X4_findSyllable_2 82 (nI (fA A)) qv_TT (fun M1 => some ((-2), M1))) f)
      rw [e3, if_pos s]
      exact ⟨M3, rfl, a3, b3, (f1.tr f2).tr f3⟩
/-- a gate more, or no room -/
theorem w_add1 {M : qv_Mem} {l : List Nat} (h : zR M 96 97 l) (g : Nat) : (l.length < 60 → ∃ M1, f_X6_add qv_TT 96 (nI g) M = some (1, M1) ∧ zR M1 96 97 (l ++ [g]) ∧ zow M M1 96 97) ∧ (l.length = 60 → f_X6_add qv_TT 96 (nI g) M = some (0, M)) := ⟨fun hl => w_add zt_dl h hl g, fun hl => w_add0 h hl _⟩
theorem x_addSyllable {M : qv_Mem} {l : List Nat} (h : zR M 96 97 l) {i : Nat} (hi : i < 3) : ∃ M1, zow M M1 96 97 ∧ ((l.length + (sy i).length ≤ 60 → f_X4_addSyllable qv_TT 96 (nI i) M = some (1, M1) ∧ zR M1 96 97 (l ++ sy i)) ∧ (60 < l.length + (sy i).length → f_X4_addSyllable qv_TT 96 (nI i) M = some (0, M1))) := by
  have h60 := h.2.1
  unfold f_X4_addSyllable
  match i, hi with
  | 0, _ =>
    rw [zjn, if_pos (by decide)]
    dsimp only
    rw [zjn, if_neg zl1n0, if_pos (by decide)]
    dsimp only
    rw [if_neg zl1n0, zl1i]
    by_cases c : l.length < 60
    · obtain ⟨M1, e1, h1, k1⟩ := (w_add1 h 1).1 c
      refine ⟨M1, k1, fun _ => ⟨?_, h1⟩, fun q => ?_⟩
      · rw [e1, zbp]
        rfl
      · exfalso
        have e : (sy 0).length = 1 := rfl
        omega
    · refine ⟨M, zow.rf _ _ _, fun q => ?_, fun _ => ?_⟩
      · exfalso
        have e : (sy 0).length = 1 := rfl
        omega
      · rw [(w_add1 h 1).2 (by omega), zbp]
        rfl
  | 1, _ =>
    rw [zjn, if_pos (by decide)]
    dsimp only
    rw [zjn, if_neg zl1n0, if_neg (by decide), zi_0]
    have e : (sy 1).length = 2 := rfl
    by_cases c : l.length < 60
    · obtain ⟨M1, e1, h1, k1⟩ := (w_add1 h 0).1 c
      rw [e1, zbp, if_neg (show ¬ (1 : Int32) = nI 0 from zl1n0)]
      dsimp only
      rw [if_neg (show ¬ (1 : Int32) = nI 0 from zl1n0), zl1i]
      by_cases c2 : l.length < 59
      · obtain ⟨M2, e2, h2, k2⟩ := (w_add1 h1 1).1 (by rw [List.length_append, List.length_singleton]; omega)
        refine ⟨M2, k1.tr k2, fun _ => ⟨?_, ?_⟩, fun q => by omega⟩
        · rw [e2, zbp]
          rfl
        · rw [List.append_assoc] at h2
          exact h2
      · refine ⟨M1, k1, fun q => by omega, fun _ => ?_⟩
        rw [(w_add1 h1 1).2 (by rw [List.length_append, List.length_singleton]; omega), zbp]
        rfl
    · refine ⟨M, zow.rf _ _ _, fun q => by omega, fun _ => ?_⟩
      rw [(w_add1 h 0).2 (by omega), zbp]
      rfl
  | 2, _ =>
    rw [zjn, if_neg (by decide), zl2i]
    have e : (sy 2).length = 3 := rfl
    by_cases c : l.length < 60
    · obtain ⟨M1, e1, h1, k1⟩ := (w_add1 h 2).1 c
      rw [e1, zbp, if_neg zl1n0]
      dsimp only
      rw [zjn, if_neg zl1n0, if_neg (by decide), zi_0]
      by_cases c2 : l.length < 59
      · obtain ⟨M2, e2, h2, k2⟩ := (w_add1 h1 0).1 (by rw [List.length_append, List.length_singleton]; omega)
        rw [e2, zbp, if_neg (show ¬ (1 : Int32) = nI 0 from zl1n0)]
        dsimp only
        rw [if_neg (show ¬ (1 : Int32) = nI 0 from zl1n0), zl1i]
        by_cases c3 : l.length < 58
        · obtain ⟨M3, e3, h3, k3⟩ := (w_add1 h2 1).1 (by rw [List.length_append, List.length_append, List.length_singleton, List.length_singleton]; omega)
          refine ⟨M3, (k1.tr k2).tr k3, fun _ => ⟨?_, ?_⟩, fun q => by omega⟩
          · rw [e3, zbp]
            rfl
          · rw [List.append_assoc, List.append_assoc] at h3
            exact h3
        · refine ⟨M2, k1.tr k2, fun q => by omega, fun _ => ?_⟩
          rw [(w_add1 h2 1).2 (by rw [List.length_append, List.length_append, List.length_singleton, List.length_singleton]; omega), zbp]
          rfl
      · refine ⟨M1, k1, fun q => by omega, fun _ => ?_⟩
        rw [(w_add1 h1 0).2 (by rw [List.length_append, List.length_singleton]; omega), zbp]
        rfl
    · refine ⟨M, zow.rf _ _ _, fun q => by omega, fun _ => ?_⟩
      rw [(w_add1 h 2).2 (by omega), zbp]
      rfl
  | i + 3, hi => omega
