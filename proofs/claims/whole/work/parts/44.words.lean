/-! The class's calls upon words: push, pull, shorter. -/
abbrev zWH : Type := Int32 × (Nat → List Nat) × List (Nat × List Nat)
def a_bec (W : Nat → List Nat) (Hs : List (Nat × List Nat)) (w : Nat) (l : List Nat) : zWH := (nI l.length, a_bW W w l, a_bH W Hs w l)
def a_push (W : Nat → List Nat) (Hs : List (Nat × List Nat)) (p q : Int32) : zWH := if zr p 3 ∨ zr q 7 then (-1, W, Hs) else if (W p.toNatClampNeg).length = 60 then (-3, W, Hs) else a_bec W Hs p.toNatClampNeg (W p.toNatClampNeg ++ [q.toNatClampNeg])
def a_cutl (l : List Nat) : List Nat := l.take (l.length - 1) ++ l.drop (l.length - 1 + 1)
def a_pull (W : Nat → List Nat) (Hs : List (Nat × List Nat)) (p : Int32) : zWH := if zr p 3 then (-1, W, Hs) else if (W p.toNatClampNeg).length = 0 then (-2, W, Hs) else (nI ((W p.toNatClampNeg).getD ((W p.toNatClampNeg).length - 1) 0), (a_bec W Hs p.toNatClampNeg (a_cutl (W p.toNatClampNeg))).2)
def a_shorter (W : Nat → List Nat) (Hs : List (Nat × List Nat)) (p : Int32) : zWH := if zr p 3 then (-1, W, Hs) else a_bec W Hs p.toNatClampNeg (s_run 120 (W p.toNatClampNeg))
theorem zSW_d {M M1 : qv_Mem} (k : zow M M1 96 97) : zfr zSW M M1 := k.fr.mono (fun a ha => by unfold zSW; omega)
theorem zCW.d {M M1 : qv_Mem} {W : Nat → List Nat} (h : zCW M W) (k : zow M M1 96 97) : zCW M1 W := h.fr k.fr (fun a _ _ => by omega)
theorem zH.d {M M1 : qv_Mem} {Hs : List (Nat × List Nat)} (h : zH M Hs) (k : zow M M1 96 97) : zH M1 Hs := h.fr k.fr (fun a _ _ => by omega)
theorem g_snoc {l : List Nat} {g : Nat} (h : ∀ x ∈ l, x < 7) (hg : g < 7) : ∀ x ∈ l ++ [g], x < 7 := by
  intro x hx
  rcases List.mem_append.mp hx with q | q
  · exact h x q
  · rw [List.mem_singleton.mp q]; exact hg
theorem x_push {M : qv_Mem} {W : Nat → List Nat} {Hs : List (Nat × List Nat)} (hW : zCW M W) (hk : zWk W) (hH : zH M Hs) (p q : Int32) : ∃ M1, f_X9_push qv_TT 0 p q M = some ((a_push W Hs p q).1, M1) ∧ zCW M1 (a_push W Hs p q).2.1 ∧ zH M1 (a_push W Hs p q).2.2 ∧ zfr zSW M M1 := by
  unfold f_X9_push a_push
  rcases zr_in p 3 with ⟨w, hw, w2, rfl⟩ | h
  · rcases zr_in q 7 with ⟨g, hg, g2, rfl⟩ | h'
    · rw [x_isWord hw, zbo, if_neg zl1n0, x_isGate hg, zbo, if_neg zl1n0, if_neg (fun q => q.elim (zr_n hw w2) (zr_n hg g2)), zi_in hw (by omega), zgd, zt_w hw, zt_draft, zi_cl w2, zi_cl g2]
      obtain ⟨M1, e1, h1, k1⟩ := w_makeCopy (t := 96) zt_dl (zt_wl hw) (hW w hw)
      rw [e1, zbo]
      have h60 := (hk w hw).1
      by_cases hl : (W w).length = 60
      · rw [w_add0 h1 hl, zbp, if_pos rfl, if_pos hl]
        exact ⟨M1, rfl, hW.d k1, hH.d k1, zSW_d k1⟩
      · obtain ⟨M2, e2, h2, k2⟩ := w_add (t := 96) zt_dl h1 (by omega) g
        rw [e2, zbp, if_neg zl1n0, if_neg hl]
        obtain ⟨M3, e3, h3, h4, k3⟩ := x_settleW ((hW.d k1).d k2) hk ((hH.d k1).d k2) hw h2 (g_snoc (hk w hw).2 hg)
        rw [e3, zbp]
        exact ⟨M3, rfl, h3, h4, ((zSW_d k1).tr (zSW_d k2)).tr k3⟩
    · rw [x_isWord hw, zbo, if_neg zl1n0, x_isGate0 h', zbo, if_pos rfl, if_pos (Or.inr h')]
      exact ⟨M, rfl, hW, hH, zfr.rf _ _⟩
  · rw [x_isWord0 h, zbo, if_pos rfl, if_pos (Or.inl h)]
    exact ⟨M, rfl, hW, hH, zfr.rf _ _⟩
theorem zi_m1 : nI 0 - 1 = -1 := by decide +kernel
theorem zi_ps (n : Nat) : nI (n + 1) - 1 = nI n := nI_pred n
theorem x_pull {M : qv_Mem} {W : Nat → List Nat} {Hs : List (Nat × List Nat)} (hW : zCW M W) (hk : zWk W) (hH : zH M Hs) (p : Int32) : ∃ M1, f_X9_pull qv_TT 0 p M = some ((a_pull W Hs p).1, M1) ∧ zCW M1 (a_pull W Hs p).2.1 ∧ zH M1 (a_pull W Hs p).2.2 ∧ zfr zSW M M1 := by
  unfold f_X9_pull a_pull
  rcases zr_in p 3 with ⟨w, hw, w2, rfl⟩ | h
  · rw [x_isWord hw, zbo, if_neg zl1n0, if_neg (zr_n hw w2), zi_in hw (by omega), zgd, zt_w hw, zt_draft, zi_cl w2]
    obtain ⟨M1, e1, h1, k1⟩ := w_makeCopy (t := 96) zt_dl (zt_wl hw) (hW w hw)
    have h60 := (hk w hw).1
    rw [e1, zbo, zgS, h1.1]
    by_cases hl : (W w).length = 0
    · rw [if_pos hl, hl, zi_m1, w_at0 h1 (q := -1) (Or.inl (by decide)), zbo, if_neg zln2]
      exact ⟨M1, rfl, hW.d k1, hH.d k1, zSW_d k1⟩
    · have e : nI (W w).length - 1 = nI ((W w).length - 1) := by
        have : (W w).length = ((W w).length - 1) + 1 := by omega
        rw [this, zi_ps]
        rfl
      have hgt := zg_get (hk w hw).2 ((W w).length - 1)
      rw [if_neg hl, e, w_at zt_dl h1 (by omega), zbo, if_pos (nI_pos' (by omega)), zgS, h1.1, e]
      obtain ⟨M2, e2, h2, k2⟩ := w_cut (t := 96) zt_dl h1 (a := (W w).length - 1) (m := 1) (by omega)
      rw [zl1i, e2, zbo]
      obtain ⟨M3, e3, h3, h4, k3⟩ := x_settleW ((hW.d k1).d k2) hk ((hH.d k1).d k2) hw h2 (s_mem_cut (hk w hw).2)
      rw [e3, zbp]
      exact ⟨M3, rfl, h3, h4, ((zSW_d k1).tr (zSW_d k2)).tr k3⟩
  · rw [x_isWord0 h, zbo, if_pos rfl, if_pos h]
    exact ⟨M, rfl, hW, hH, zfr.rf _ _⟩
theorem x_shorter {M : qv_Mem} {W : Nat → List Nat} {Hs : List (Nat × List Nat)} (hW : zCW M W) (hk : zWk W) (hH : zH M Hs) (p : Int32) : ∃ M1, f_X9_shorter qv_TT 0 p M = some ((a_shorter W Hs p).1, M1) ∧ zCW M1 (a_shorter W Hs p).2.1 ∧ zH M1 (a_shorter W Hs p).2.2 ∧ zfr zSW M M1 := by
  unfold f_X9_shorter a_shorter
  rcases zr_in p 3 with ⟨w, hw, w2, rfl⟩ | h
  · rw [x_isWord hw, zbo, if_neg zl1n0, if_neg (zr_n hw w2), zi_in hw (by omega), zgd, zt_w hw, zt_draft, zi_cl w2]
    obtain ⟨M1, e1, h1, k1⟩ := w_makeCopy (t := 96) zt_dl (zt_wl hw) (hW w hw)
    rw [e1, zbo]
    obtain ⟨M2, e2, h2, k2⟩ := w_shorten (t := 96) zt_dl h1 (hk w hw).2
    rw [e2, zbo]
    obtain ⟨M3, e3, h3, h4, k3⟩ := x_settleW ((hW.d k1).d k2) hk ((hH.d k1).d k2) hw h2 (s_run_lt _ _ (hk w hw).2)
    rw [e3, zbp]
    exact ⟨M3, rfl, h3, h4, ((zSW_d k1).tr (zSW_d k2)).tr k3⟩
  · rw [x_isWord0 h, zbo, if_pos rfl, if_pos h]
    exact ⟨M, rfl, hW, hH, zfr.rf _ _⟩
theorem a_bec_k {W : Nat → List Nat} {Hs : List (Nat × List Nat)} (hk : zWk W) (hH : zHk Hs) {w : Nat} (hw : w < 3) {l : List Nat} (h60 : l.length ≤ 60) (hl : ∀ g ∈ l, g < 7) : zWk (a_bW W w l) ∧ zHk (a_bH W Hs w l) := by
  refine ⟨fun i hi => ?_, ?_⟩
  · unfold a_bW
    split
    · exact ⟨h60, hl⟩
    · exact hk i hi
  · unfold a_bH
    split
    · exact hH
    · refine ⟨by rw [List.length_take]; omega, fun k hk' => ?_⟩
      rw [List.length_take, List.length_cons] at hk'
      cases k with
      | zero => exact ⟨hw, hk w hw⟩
      | succ k =>
        have e : hAt (((w, W w) :: Hs).take 8) (k + 1) = hAt Hs k := by
          unfold hAt
          simp only [List.getD_eq_getElem?_getD, List.getElem?_take]
          rw [if_pos (by omega), List.getElem?_cons_succ]
        rw [e]
        exact hH.2 k (by omega)
