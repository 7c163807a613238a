/-! The class's history, and a word that becomes another. -/
def hAt (Hs : List (Nat × List Nat)) (k : Nat) : Nat × List Nat := Hs.getD k (0, [])
def zHx (nx k : Nat) : Nat := (nx + 7 - k) % 8
def zHe (M : qv_Mem) (nx k : Nat) (x : Nat × List Nat) : Prop := M.1 39 (zHx nx k) = nI x.1 ∧ zR M (40 + 2 * zHx nx k) (41 + 2 * zHx nx k) x.2
def zH (M : qv_Mem) (Hs : List (Nat × List Nat)) : Prop := ∃ nx, nx < 8 ∧ M.2.2 37 2 = nI nx ∧ M.2.2 37 3 = nI Hs.length ∧ Hs.length ≤ 8 ∧ ∀ k, k < Hs.length → zHe M nx k (hAt Hs k)
def zHk (Hs : List (Nat × List Nat)) : Prop := Hs.length ≤ 8 ∧ ∀ k, k < Hs.length → (hAt Hs k).1 < 3 ∧ (hAt Hs k).2.length ≤ 60 ∧ ∀ g ∈ (hAt Hs k).2, g < 7
def zCW (M : qv_Mem) (W : Nat → List Nat) : Prop := ∀ w, w < 3 → zR M (13 + 2 * w) (14 + 2 * w) (W w)
def a_bW (W : Nat → List Nat) (w : Nat) (l : List Nat) : Nat → List Nat := fun i => if i = w then l else W i
def a_bH (W : Nat → List Nat) (Hs : List (Nat × List Nat)) (w : Nat) (l : List Nat) : List (Nat × List Nat) := if W w = l then Hs else ((w, W w) :: Hs).take 8
theorem zt_hist : qv_rf qv_TT 0 3 = 37 := by decide +kernel
theorem zt_hrows : qv_rf qv_TT 37 0 = 38 := by decide +kernel
theorem zt_hown : qv_rf qv_TT 37 1 = 39 := by decide +kernel
theorem zt_draft : qv_rf qv_TT 0 9 = 96 := by decide +kernel
theorem zt_dl : qv_rf qv_TT 96 0 = 97 := by decide +kernel
theorem zt_hr : ∀ i, i < 8 → qv_rf qv_TT 38 i = 40 + 2 * i := by decide +kernel
theorem zt_hl : ∀ i, i < 8 → qv_rf qv_TT (40 + 2 * i) 0 = 41 + 2 * i := by decide +kernel
theorem zi_n8 : ∀ n, n < 8 → (nI n + 1) - (nI n + 1) / 8 * 8 = nI ((n + 1) % 8) := by decide +kernel
theorem zi_m8 : ∀ n, n < 9 → (if 8 < (nI n + 1) then 8 else (nI n + 1)) = nI (min (n + 1) 8) := by decide +kernel
theorem zHx_lt (nx k : Nat) : zHx nx k < 8 := Nat.mod_lt _ (by omega)
theorem zHx_0 {nx : Nat} (h : nx < 8) : zHx ((nx + 1) % 8) 0 = nx := by unfold zHx; omega
theorem zHx_s {nx k : Nat} (h : nx < 8) (hk : k < 7) : zHx ((nx + 1) % 8) (k + 1) = zHx nx k := by unfold zHx; omega
theorem zHx_ne {nx k : Nat} (h : nx < 8) (hk : k < 7) : zHx nx k ≠ nx := by unfold zHx; omega
theorem x_keep {M : qv_Mem} {Hs : List (Nat × List Nat)} {t p w : Nat} {l : List Nat} (hH : zH M Hs) (hp : qv_rf qv_TT t 0 = p) (h : zR M t p l) : ∃ M1, f_X3_keep qv_TT 37 (nI w) t M = some M1 ∧ zH M1 (((w, l) :: Hs).take 8) ∧ zfr (fun a => 37 ≤ a ∧ a ≤ 55) M M1 := by
  obtain ⟨nx, n1, n2, n3, n4, n5⟩ := hH
  unfold f_X3_keep
  rw [zgS, n2, zi_in n1 (by omega), zgd, zt_hrows, zi_cl (by omega), zt_hr nx n1]
  obtain ⟨M1, e1, h1, k1⟩ := w_makeCopy (t := 40 + 2 * nx) (zt_hl nx n1) hp h
  have f1 := k1.fr
  have s2 : M1.2.2 37 2 = nI nx := by rw [f1.2.2 37 (by omega)]; exact n2
  have s3 : M1.2.2 37 3 = nI Hs.length := by rw [f1.2.2 37 (by omega)]; exact n3
  rw [e1, zbo, zgS, s2, zt_hown, zi_stI (by omega) (by omega), zgS]
  have s4 : (qv_upI M1 39 nx (nI w)).2.2 37 2 = nI nx := s2
  rw [s4, zpS, zi_n8 nx n1, zgS]
  have s5 : (qv_upS (qv_upI M1 39 nx (nI w)) 37 2 (nI ((nx + 1) % 8))).2.2 37 3 = nI Hs.length := by
    rw [zs_ne2 (by omega)]
    exact s3
  rw [s5, zpS, zi_m8 _ (by omega)]
  refine ⟨_, rfl, ?_, ?_⟩
  · refine ⟨(nx + 1) % 8, by omega, ?_, ?_, ?_, fun k hk => ?_⟩
    · rw [zs_ne2 (by omega), zs_at]
    · rw [zs_at, List.length_take, List.length_cons, Nat.min_comm]
    · rw [List.length_take]; omega
    · rw [List.length_take, List.length_cons] at hk
      cases k with
      | zero =>
        have e : hAt (((w, l) :: Hs).take 8) 0 = (w, l) := rfl
        rw [e]
        unfold zHe
        rw [zHx_0 n1]
        refine ⟨?_, ?_⟩
        · show (qv_upI M1 39 nx (nI w)).1 39 nx = nI w
          rw [zgi_u1, zgi_at]
          unfold zui
          rw [if_pos rfl]
        · refine zR.fr (S := fun a => a = 37 ∨ a = 39) h1 ⟨fun a ha => ?_, fun a ha => rfl, fun a ha => ?_⟩ (by omega) (by omega)
          · show (qv_upI M1 39 nx (nI w)).1 a = _
            rw [zgi_u1, zgi_ne (by omega)]
          · rw [zs_ne (by omega), zs_ne (by omega)]
            rfl
      | succ k =>
        have e : hAt (((w, l) :: Hs).take 8) (k + 1) = hAt Hs k := by
          unfold hAt
          simp only [List.getD_eq_getElem?_getD, List.getElem?_take]
          rw [if_pos (by omega), List.getElem?_cons_succ]
        rw [e]
        obtain ⟨m1, m2⟩ := n5 k (by omega)
        have hne := zHx_ne n1 (show k < 7 by omega)
        have hlt := zHx_lt nx k
        unfold zHe
        rw [zHx_s n1 (by omega)]
        refine ⟨?_, ?_⟩
        · show (qv_upI M1 39 nx (nI w)).1 39 (zHx nx k) = _
          rw [zgi_u1, zgi_at]
          unfold zui
          rw [if_neg hne, f1.1 39 (by omega)]
          exact m1
        · refine zR.fr (S := fun a => a = 37 ∨ a = 39) (m2.fr f1 (by omega) (by omega)) ⟨fun a ha => ?_, fun a ha => rfl, fun a ha => ?_⟩ (by omega) (by omega)
          · show (qv_upI M1 39 nx (nI w)).1 a = _
            rw [zgi_u1, zgi_ne (by omega)]
          · rw [zs_ne (by omega), zs_ne (by omega)]
            rfl
  · refine zfr.tr (f1.mono (fun a ha => by omega)) ⟨fun a ha => ?_, fun a ha => rfl, fun a ha => ?_⟩
    · show (qv_upI M1 39 nx (nI w)).1 a = _
      rw [zgi_u1, zgi_ne (by omega)]
    · rw [zs_ne (by omega), zs_ne (by omega)]
      rfl
theorem zH.fr {M M1 : qv_Mem} {Hs : List (Nat × List Nat)} {S : Nat → Prop} (h : zH M Hs) (f : zfr S M M1) (hS : ∀ a, 37 ≤ a → a ≤ 55 → ¬ S a) : zH M1 Hs := by
  obtain ⟨nx, n1, n2, n3, n4, n5⟩ := h
  refine ⟨nx, n1, ?_, ?_, n4, fun k hk => ?_⟩
  · rw [f.2.2 37 (hS _ (by omega) (by omega))]; exact n2
  · rw [f.2.2 37 (hS _ (by omega) (by omega))]; exact n3
  · have hlt := zHx_lt nx k
    obtain ⟨m1, m2⟩ := n5 k hk
    unfold zHe
    rw [f.1 39 (hS _ (by omega) (by omega))]
    exact ⟨m1, m2.fr f (hS _ (by omega) (by omega)) (hS _ (by omega) (by omega))⟩
theorem zCW.fr {M M1 : qv_Mem} {W : Nat → List Nat} {S : Nat → Prop} (h : zCW M W) (f : zfr S M M1) (hS : ∀ a, 13 ≤ a → a ≤ 18 → ¬ S a) : zCW M1 W := fun w hw => (h w hw).fr f (hS _ (by omega) (by omega)) (hS _ (by omega) (by omega))
def zSW (a : Nat) : Prop := (13 ≤ a ∧ a ≤ 18) ∨ (37 ≤ a ∧ a ≤ 55) ∨ a = 96 ∨ a = 97
theorem x_settleW {M : qv_Mem} {W : Nat → List Nat} {Hs : List (Nat × List Nat)} {w : Nat} {l : List Nat} (hW : zCW M W) (hk : zWk W) (hH : zH M Hs) (hw : w < 3) (hd : zR M 96 97 l) (hl : ∀ g ∈ l, g < 7) : ∃ M1, f_X9_settleWord qv_TT 0 (nI w) M = some (nI l.length, M1) ∧ zCW M1 (a_bW W w l) ∧ zH M1 (a_bH W Hs w l) ∧ zfr zSW M M1 := by
  unfold f_X9_settleWord a_bH
  rw [zi_in hw (by omega), zgd, zt_w hw, zt_draft, zt_hist]
  have hs := w_isSame (zt_wl hw) zt_dl (hW w hw) hd (hk w hw).2 hl
  by_cases e : W w = l
  · rw [hs.1 e, zbo, zjn, if_neg zl1n0]
    dsimp only
    rw [zgS, (hW w hw).1, if_pos e, e]
    refine ⟨M, rfl, fun i hi => ?_, hH, zfr.rf _ _⟩
    unfold a_bW
    by_cases q : i = w
    · rw [if_pos q, ← e, q]
      exact hW w hw
    · rw [if_neg q]
      exact hW i hi
  · rw [hs.2 e, zbo, zjn, if_pos rfl, if_neg e]
    obtain ⟨M1, e1, h1, k1⟩ := x_keep (w := w) hH (zt_wl hw) (hW w hw)
    rw [e1, zbo]
    have hd1 : zR M1 96 97 l := hd.fr k1 (by omega) (by omega)
    obtain ⟨M2, e2, h2, k2⟩ := w_makeCopy (t := 13 + 2 * w) (zt_wl hw) zt_dl hd1
    rw [e2, zbo]
    dsimp only
    rw [zgS, h2.1]
    refine ⟨M2, rfl, fun i hi => ?_, h1.fr k2.fr (fun a _ _ => by omega), ?_⟩
    · unfold a_bW
      by_cases q : i = w
      · rw [if_pos q, q]
        exact h2
      · rw [if_neg q]
        exact ((hW i hi).fr k1 (by omega) (by omega)).fr k2.fr (by omega) (by omega)
    · exact zfr.tr (k1.mono (fun a ha => by unfold zSW; omega)) (k2.fr.mono (fun a ha => by unfold zSW; omega))
