/-! The reference: a word becomes what stands in the row, to the end. -/
noncomputable def y_k4 (p1 : Int32) (M3 : qv_Mem) : Option (Int32 × qv_Mem) :=
 qv_gS 106 22 M3 (fun v5 =>
 qv_stI 8 (qv_rf qv_TT 106 21) v5 p1 M3 (fun M6 =>
 qv_gS 106 22 M6 (fun v7 =>
 qv_ldI 3 (qv_rf qv_TT 106 6) p1 M6 (fun v8 =>
 qv_stI 8 (qv_rf qv_TT 106 20) v7 v8 M6 (fun M9 =>
 qv_jn (fun (M10 : qv_Mem) =>
 qv_gS 106 22 M10 (fun v12 =>
 qv_pS 106 22 (v12 + 1) M10 (fun M13 =>
 qv_gS 106 18 M13 (fun v14 =>
 qv_stI 3 (qv_rf qv_TT 106 6) p1 v14 M13 (fun M15 =>
 qv_jn (fun (M16 : qv_Mem) =>
 qv_gS 106 18 M16 (fun v18 =>
 some (v18, M16))) (fun k17 =>
 qv_lp2 (b_X10_becomes_198 106 p1 qv_TT k17) qv_N 0 M15)))))) (fun k11 =>
 qv_lp2 (b_X10_becomes_139 106 p1 qv_TT k11) qv_N 0 M9))))))
def y_P (N : qv_Mem) (A B C : Nat → Int32) (n w m : Nat) : qv_Mem := qv_upI (qv_upS (m3 N A B C) 106 22 (nI (n + 1))) 113 w (nI m)
theorem y_P_ne {N : qv_Mem} {A B C : Nat → Int32} {n w m a : Nat} (h : a ≠ 113) : (y_P N A B C n w m).1 a = (m3 N A B C).1 a := by
  unfold y_P
  rw [zgi_u1, zgi_ne h]
  rfl
theorem y_P_113 {N : qv_Mem} {A B C : Nat → Int32} {n w m : Nat} : (y_P N A B C n w m).1 113 = zui (N.1 113) w (nI m) := by
  unfold y_P
  rw [zgi_u1]
  funext j
  rw [zgi_at]
  show zui ((m3 N A B C).1 113) w (nI m) j = _
  rw [m3_ne (by omega)]
theorem y_bec2 {N : qv_Mem} {A B C : Nat → Int32} {w : Nat} {W : Nat → List Nat} {Hs : List (Nat × List Nat)} {l : List Nat} (hn : Hs.length < 8) (hw : w < 3) (h22 : N.2.2 106 22 = nI Hs.length) (hW : yW N W) (hA : hL A B C Hs) (h6 : ∀ k, k < Hs.length → (hAt Hs k).2.length ≤ 60) (hR : yR N l) (hl60 : l.length ≤ 60) : ∃ M1, y_k4 (nI w) (m3 N A B C) = some (nI l.length, M1) ∧ yW M1 (a_bW W w l) ∧ yH M1 ((w, W w) :: Hs) ∧ yfr N M1 := by
  obtain ⟨a1, a2, a3⟩ := hW w hw
  have e22 : ∀ A B C, (m3 N A B C).2.2 106 22 = nI Hs.length := fun A B C => h22
  have hP18 : ∀ A B C, (y_P N A B C Hs.length w l.length).2.2 106 18 = nI l.length := fun A B C => by
    show (qv_upS (m3 N A B C) 106 22 (nI (Hs.length + 1))).2.2 106 18 = _
    rw [zs_ne2 (by omega)]
    exact hR.1
  have e18 : ∀ A B C, (qv_upS (m3 N A B C) 106 22 (nI (Hs.length + 1))).2.2 106 18 = nI l.length := fun A B C => hP18 A B C
  have hP : ∀ A B C, qv_upI (qv_upS (m3 N A B C) 106 22 (nI (Hs.length + 1))) 113 w (nI l.length) = y_P N A B C Hs.length w l.length := fun A B C => rfl
  unfold y_k4
  rw [zgS, e22, zt_wasO, zi_stI (by omega) (by omega), m3_uA, zgS, e22, zt_size, zi_ldI hw (by omega), m3_ne (by omega), a1, zt_wasS, zi_stI (by omega) (by omega), m3_uB, zjn, zi_0, y_b139 hn hw h22, zgS, e22, zpS, nI_1, zgS, e18, zi_stI hw (by omega), zjn, hP, y_b198 hw hl60 (hP18 _ _ _), zgS, zgi_s, hP18]
  have hLn := hL_push (w := w) (G := N.1 112) a2 h6 hA a3
  generalize zui A Hs.length (nI w) = A2 at hLn ⊢
  generalize zui B Hs.length (nI (W w).length) = B2 at hLn ⊢
  generalize h_cp C (N.1 112) Hs.length w 60 = C2 at hLn ⊢
  refine ⟨_, rfl, fun v hv => ?_, ⟨?_, ?_, ?_⟩, ?_⟩
  · obtain ⟨b1, b2, b3⟩ := hW v hv
    rw [zgi_ne (show (113 : Nat) ≠ 112 by omega), y_P_113]
    unfold a_bW
    by_cases q : v = w
    · rw [if_pos q]
      refine ⟨?_, hl60, fun i hi => ?_⟩
      · unfold zui
        rw [if_pos q]
      · rw [zgi_at]
        unfold h_w
        rw [if_pos (by rw [q]; omega), q, show 60 * w + i - 60 * w = i by omega, y_P_ne (by omega), m3_ne (by omega)]
        exact hR.2.2 i hi
    · rw [if_neg q]
      refine ⟨?_, b2, fun i hi => ?_⟩
      · unfold zui
        rw [if_neg q]
        exact b1
      · rw [zgi_at]
        unfold h_w
        rw [if_neg (by omega), y_P_ne (by omega), m3_ne (by omega)]
        exact b3 i hi
  · show (qv_upS (m3 N A2 B2 C2) 106 22 (nI (Hs.length + 1))).2.2 106 22 = _
    rw [zs_at]
    rfl
  · rw [List.length_cons]; omega
  · rw [zgi_ne (show (125 : Nat) ≠ 112 by omega), zgi_ne (show (124 : Nat) ≠ 112 by omega), zgi_ne (show (123 : Nat) ≠ 112 by omega), y_P_ne (by omega), y_P_ne (by omega), y_P_ne (by omega)]
    exact hLn
  · refine ⟨rfl, fun a ha => ?_, fun a k hk => ?_⟩
    · rw [zgi_ne (by omega), y_P_ne (by omega), m3_ne (by omega)]
    · show (qv_upS (m3 N A2 B2 C2) 106 22 (nI (Hs.length + 1))).2.2 a k = _
      rw [zs_ne2 (fun q => hk ⟨q.1, Or.inr q.2⟩)]
      rfl
theorem y_becomes {M : qv_Mem} {W : Nat → List Nat} {Hs : List (Nat × List Nat)} {w : Nat} {l : List Nat} (hW : yW M W) (hk : zWk W) (hH : yH M Hs) (hHk : zHk Hs) (hw : w < 3) (hR : yR M l) (hl60 : l.length ≤ 60) (hl : ∀ g ∈ l, g < 7) : ∃ M1, f_X10_becomes qv_TT 106 (nI w) M = some (nI l.length, M1) ∧ yW M1 (a_bW W w l) ∧ yH M1 (a_bH W Hs w l) ∧ yfr M M1 := by
  obtain ⟨c1, c2, c3⟩ := hH
  have hf : f_X10_becomes qv_TT 106 (nI w) M = qv_bo (f_X10_isOther qv_TT 106 (nI w) M) (fun v1 => (if v1 = 0 then qv_gS 106 18 M (fun v49 => some (v49, M)) else qv_gS 106 22 M (fun v2 => (if v2 = 8 then qv_lp2 (b_X10_becomes_24 106 qv_TT (fun (M31 : qv_Mem) => qv_gS 106 22 M31 (fun v33 => qv_pS 106 22 (v33 - 1) M31 (fun M34 => y_k4 (nI w) M34)))) qv_N 1 M else y_k4 (nI w) M)))) := id rfl
  unfold a_bH
  rw [hf, y_isOther hW hk hR hl hw, zbo]
  by_cases e : W w = l
  · rw [if_pos e, if_pos rfl, if_pos e, zgS, hR.1]
    refine ⟨M, rfl, fun i hi => ?_, ⟨c1, c2, c3⟩, yfr.rf _⟩
    unfold a_bW
    by_cases q : i = w
    · rw [if_pos q, ← e, q]
      exact hW w hw
    · rw [if_neg q]
      exact hW i hi
  · rw [if_neg e, if_neg zl1n0, if_neg e, zgS, c1]
    by_cases h8 : Hs.length = 8
    · have hp7 : nI 8 - 1 = nI 7 := nI_pred 7
      have e22 : ∀ A B C, (m3 M A B C).2.2 106 22 = nI 8 := fun A B C => by rw [← h8]; exact c1
      have m0 := y_shift (M := M) (A := M.1 125) (B := M.1 124) (C := M.1 123) (fun (M31 : qv_Mem) => qv_gS 106 22 M31 (fun v33 => qv_pS 106 22 (v33 - 1) M31 (fun M34 => y_k4 (nI w) M34)))
      rw [m3_self, ← zl1i] at m0
      rw [if_pos (by rw [h8]; rfl), m0, zgS, zpS, e22, hp7]
      have comm : ∀ A B C, qv_upS (m3 M A B C) 106 22 (nI 7) = m3 (qv_upS M 106 22 (nI 7)) A B C := fun A B C => rfl
      rw [comm]
      have l7 : (Hs.take 7).length = 7 := by rw [List.length_take]; omega
      have at7 : ∀ k, k < 7 → hAt (Hs.take 7) k = hAt Hs k := fun k hk => by
        unfold hAt
        simp only [List.getD_eq_getElem?_getD, List.getElem?_take]
        rw [if_pos hk]
      have R1 : yR (qv_upS M 106 22 (nI 7)) l := ⟨by rw [zs_ne2 (by omega)]; exact hR.1, hR.2.1, hR.2.2⟩
      obtain ⟨M1, e1, w1, h1, f1⟩ := y_bec2 (N := qv_upS M 106 22 (nI 7)) (Hs := Hs.take 7) (by omega) hw (by rw [zs_at, l7]) hW (hL_drop h8 (fun k hk => (hHk.2 k (by omega)).2.1) c3) (fun k hk => by rw [at7 k (by omega)]; exact (hHk.2 k (by omega)).2.1) R1 hl60
      refine ⟨M1, e1, w1, ?_, ?_⟩
      · rw [List.take_succ_cons]
        exact h1
      · refine yfr.tr (M1 := qv_upS M 106 22 (nI 7)) ⟨rfl, fun _ _ => rfl, fun a k hk => zs_ne2 (fun q => hk ⟨q.1, Or.inr q.2⟩)⟩ f1
    · rw [if_neg (by rw [zl8i]; exact fun q => h8 ((nI_eq (by omega) (by omega)).mp q))]
      have key := y_bec2 (N := M) (A := M.1 125) (B := M.1 124) (C := M.1 123) (Hs := Hs) (by omega) hw c1 hW c3 (fun k hk => (hHk.2 k hk).2.1) hR hl60
      rw [m3_self] at key
      rw [List.take_of_length_le (by rw [List.length_cons]; omega)]
      exact key
