theorem zT_zf {M : qv_Mem} {t p : Nat} {F : Nat → Int64} {A : zq_T} (h : zh F A.1) (h2 : M.2.2 t 1 = nI A.2) : zT (zf M p F) t p A := by
  refine ⟨?_, h2⟩
  have : (zf M p F).2.1 p = F := by funext j; exact zf_at _ _ _ j
  rw [this]
  exact h
theorem z_pl : f_X7_placeOf 0 0 = some (nI 0) ∧ f_X7_placeOf 0 1 = some (nI 4) ∧ f_X7_placeOf 1 0 = some (nI 8) ∧ f_X7_placeOf 1 1 = some (nI 12) := ⟨z_placeOf 0 0, z_placeOf 0 1, z_placeOf 1 0, z_placeOf 1 1⟩
theorem z_ap1 {T : List qv_Ent} {t p : Nat} (hp : qv_rf T t 0 = p) (M : qv_Mem) {g a b : Nat} (hg : g < 7) (ha : a + 4 ≤ 16) (hb : b + 4 ≤ 16) (hab : a + 4 ≤ b) : f_X7_applyToPair T t (nI g) (nI a) (nI b) M = some (zf M p (z_pair g a b (M.2.1 p))) := by
  have h := z_applyToPair hp M (M.2.1 p) hg ha hb hab
  rw [zf_self] at h
  exact h
theorem z_beh_st {T : List qv_Ent} {t p : Nat} (hp : qv_rf T t 0 = p) {M : qv_Mem} {e : Nat} {g : Nat} (he : M.2.2 t 1 = nI e) (hg : g < 7) : f_X7_applyBehind T t (nI g) M = (if g = 0 then qv_bo (f_X7_lower T t (qv_upS (zf M p (z_pair g 8 12 (z_pair g 0 4 (M.2.1 p)))) t 1 (nI (e + 1)))) (fun M9 => some M9) else some (zf M p (z_pair g 8 12 (z_pair g 0 4 (M.2.1 p))))) := by
  unfold f_X7_applyBehind
  rw [z_pl.1, z_pl.2.1, z_pl.2.2.1, z_pl.2.2.2]
  show qv_bo (f_X7_applyToPair T t (nI g) (nI 0) (nI 4) M) _ = _
  rw [z_ap1 hp M hg (by omega) (by omega) (by omega)]
  show qv_bo (f_X7_applyToPair T t (nI g) (nI 8) (nI 12) (zf M p (z_pair g 0 4 (M.2.1 p)))) _ = _
  rw [z_applyToPair hp M _ hg (by omega) (by omega) (by omega)]
  show (if nI g = nI 0 then qv_bo (f_X7_lower T t (qv_upS (zf M p (z_pair g 8 12 (z_pair g 0 4 (M.2.1 p)))) t 1 (M.2.2 t 1 + nI 1))) (fun M9 => some M9) else _) = _
  rw [he, nI_add]
  simp only [zi_eq (show g < 2147483648 by omega) (show 0 < 2147483648 by omega)]
theorem z_ahe_st {T : List qv_Ent} {t p : Nat} (hp : qv_rf T t 0 = p) {M : qv_Mem} {e : Nat} {g : Nat} (he : M.2.2 t 1 = nI e) (hg : g < 7) : f_X7_applyAhead T t (nI g) M = (if g = 0 then qv_bo (f_X7_lower T t (qv_upS (zf M p (z_pair g 4 12 (z_pair g 0 8 (M.2.1 p)))) t 1 (nI (e + 1)))) (fun M9 => some M9) else some (zf M p (z_pair g 4 12 (z_pair g 0 8 (M.2.1 p))))) := by
  unfold f_X7_applyAhead
  rw [z_pl.1, z_pl.2.1, z_pl.2.2.1, z_pl.2.2.2]
  show qv_bo (f_X7_applyToPair T t (nI g) (nI 0) (nI 8) M) _ = _
  rw [z_ap1 hp M hg (by omega) (by omega) (by omega)]
  show qv_bo (f_X7_applyToPair T t (nI g) (nI 4) (nI 12) (zf M p (z_pair g 0 8 (M.2.1 p)))) _ = _
  rw [z_applyToPair hp M _ hg (by omega) (by omega) (by omega)]
  show (if nI g = nI 0 then qv_bo (f_X7_lower T t (qv_upS (zf M p (z_pair g 4 12 (z_pair g 0 8 (M.2.1 p)))) t 1 (M.2.2 t 1 + nI 1))) (fun M9 => some M9) else _) = _
  rw [he, nI_add]
  simp only [zi_eq (show g < 2147483648 by omega) (show 0 < 2147483648 by omega)]
theorem z_behind {T : List qv_Ent} {t p : Nat} (hp : qv_rf T t 0 = p) {M : qv_Mem} {A : zq_T} {g : Nat} (h : zT M t p A) (hl : zq_ls A) (hb : zb A.1 1152921504606846976) (he : A.2 + 1 < 1000) (hg : g < 7) : ∃ M1, f_X7_applyBehind T t (nI g) M = some M1 ∧ zT M1 t p (zq_lm A (zq_gt g)) ∧ zo M M1 t p := by
  have hF := zh_behind h.1 hg
  rw [z_beh_st hp h.2 hg]
  by_cases h0 : g = 0
  · subst h0
    rw [if_pos rfl]
    have hT : zT (qv_upS (zf M p (z_pair 0 8 12 (z_pair 0 0 4 (M.2.1 p)))) t 1 (nI (A.2 + 1))) t p (zq_pm A (zq_gt 0)) := by
      rw [zf_S]
      exact zT_zf hF (zs_at _ _ _ _)
    obtain ⟨M1, g1, g2, g3⟩ := z_lower hp hT (zb_H hb).1 he
    rw [g1]
    exact ⟨M1, rfl, g2, ((zo_zf M t p _).tr (zo_S _ t p _)).tr g3⟩
  · rw [if_neg h0]
    refine ⟨_, rfl, ?_, zo_zf M t p _⟩
    rw [(zg_lm hl h0 hg).1]
    exact zT_zf hF h.2
theorem z_ahead {T : List qv_Ent} {t p : Nat} (hp : qv_rf T t 0 = p) {M : qv_Mem} {A : zq_T} {g : Nat} (h : zT M t p A) (hl : zq_ls A) (hb : zb A.1 1152921504606846976) (he : A.2 + 1 < 1000) (hg : g < 7) : ∃ M1, f_X7_applyAhead T t (nI g) M = some M1 ∧ zT M1 t p (zq_lm (zq_gt g) A) ∧ zo M M1 t p := by
  have hF := zh_ahead h.1 hg
  rw [z_ahe_st hp h.2 hg]
  by_cases h0 : g = 0
  · subst h0
    rw [if_pos rfl]
    have hT : zT (qv_upS (zf M p (z_pair 0 4 12 (z_pair 0 0 8 (M.2.1 p)))) t 1 (nI (A.2 + 1))) t p (zq_pm (zq_gt 0) A) := by
      rw [zf_S]
      refine zT_zf hF ?_
      rw [zs_at]
      congr 1
      exact Nat.add_comm _ _
    obtain ⟨M1, g1, g2, g3⟩ := z_lower hp hT (zb_H hb).2 (by show 1 + A.2 < 1000; omega)
    rw [g1]
    exact ⟨M1, rfl, g2, ((zo_zf M t p _).tr (zo_S _ t p _)).tr g3⟩
  · rw [if_neg h0]
    refine ⟨_, rfl, ?_, zo_zf M t p _⟩
    rw [(zg_lm hl h0 hg).2]
    exact zT_zf hF h.2
