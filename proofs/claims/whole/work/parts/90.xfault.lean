/-! write: the class looks for a fault. -/
def zBk (B : List Nat) : Prop := B.length ≤ 80 ∧ ∀ b ∈ B, 32 ≤ b ∧ b ≤ 126
theorem hb_in {B : List Nat} (h : zBk B) {i : Nat} (hi : i < B.length) : hb B i = B.getD i 0 ∧ 32 ≤ hb B i ∧ hb B i ≤ 126 := by
  have e : B[i]? = some B[i] := List.getElem?_eq_getElem hi
  have m := h.2 B[i] (List.getElem_mem hi)
  unfold hb
  rw [List.getD_eq_getElem?_getD, List.getD_eq_getElem?_getD, e]
  exact ⟨rfl, m.1, m.2⟩
theorem hb_out {B : List Nat} {i : Nat} (hi : B.length ≤ i) : hb B i = 300 := by
  unfold hb
  rw [List.getD_eq_getElem?_getD, List.getElem?_eq_none (by omega)]
  rfl
theorem x_gol : ∀ b, b < 301 → f_X9_gateOfLetter (nI b) = some (zsn (glt b)) := by decide +kernel
theorem zsn_neg (g : Nat) : (zsn g < 0) = ¬ g < 7 := by
  unfold zsn
  apply propext
  by_cases c : g < 7
  · rw [if_pos c]
    exact ⟨fun q => absurd q (nI_pos (by omega)), fun q => absurd c q⟩
  · rw [if_neg c]
    exact ⟨fun _ => c, fun _ => by decide⟩
theorem x_tat {M : qv_Mem} {B : List Nat} (hk : zBk B) (h : zTp M B) {i : Nat} (hi : i < 1000) : f_X8_at qv_TT 56 (nI i) M = some (if i < B.length then nI (hb B i) else -2) := by
  have h80 := hk.1
  unfold f_X8_at
  rw [zgS, h.1]
  by_cases c : i < B.length
  · rw [x_below c (by omega), zbo, if_neg zl1n0, zt_tpl, zi_ldI (by omega) (by omega), h.2.2 i c, if_pos c, (hb_in hk c).1]
  · have z : zr (nI i) B.length := Or.inr (by rw [nI_toInt (by omega)]; omega)
    rw [x_below0 z (by omega), zbo, if_pos rfl, if_neg c]
theorem x_tat1 {M : qv_Mem} {B : List Nat} (hk : zBk B) (h : zTp M B) {i : Nat} (hi : i < 1000) : f_X8_at qv_TT 56 (nI i - 1) M = some (if 0 < i ∧ i - 1 < B.length then nI (hb B (i - 1)) else -2) := by
  have h80 := hk.1
  cases i with
  | zero =>
    have z : zr (nI 0 - 1) B.length := Or.inl (by decide)
    unfold f_X8_at
    rw [zgS, h.1, x_below0 z (by omega), zbo, if_pos rfl, if_neg (by omega)]
  | succ i =>
    rw [zi_ps, x_tat hk h (by omega), show i + 1 - 1 = i by omega]
    by_cases c : i < B.length
    · rw [if_pos c, if_pos ⟨by omega, c⟩]
    · rw [if_neg c, if_neg (fun q => c q.2)]
theorem x_fig {M : qv_Mem} {B : List Nat} (hk : zBk B) (h : zTp M B) {i : Nat} (hi : i < 1000) : f_X8_figureAt qv_TT 56 (nI i) M = some (if 48 ≤ hb B i ∧ hb B i ≤ 57 then nI (hb B i - 48) else -2) := by
  unfold f_X8_figureAt
  rw [x_tat hk h hi, zbo]
  by_cases c : i < B.length
  · have b := (hb_in hk c).2
    rw [if_pos c, show (48 : Int32) = nI 48 from rfl, show (57 : Int32) = nI 57 from rfl]
    by_cases d : hb B i < 48
    · rw [if_pos (nI_lt d (by omega)), if_neg (by omega)]
    · rw [if_neg (nI_nlt (by omega) (by omega))]
      by_cases e : 57 < hb B i
      · rw [if_pos (nI_lt e (by omega)), if_neg (by omega)]
      · rw [if_neg (nI_nlt (by omega) (by omega)), if_pos (by omega), zi_sub (by omega) (by omega)]
  · rw [if_neg c, if_pos (by decide), hb_out (by omega), if_neg (by omega)]
def ffI (r : Option Nat) : Int32 := match r with
  | none => -2
  | some j => nI j
theorem x_ff6 {M : qv_Mem} {B : List Nat} (hk : zBk B) (h : zTp M B) : ∀ (d i f o : Nat) (n : Bool), i + d = B.length → d < f → o ≤ 4 → qv_lp3 (b_X8_findFault_6 56 M qv_TT (fun (v1 : Int32) (v2 : Int32) => qv_jn (fun (_ : Unit) => qv_gS 56 1 M (fun v5 => some v5)) (fun k4 => (if v2 = 0 then (if v1 ≤ 0 then some (-2) else k4 ()) else k4 ())))) f (nI o) (y_b2i n) (nI i) = some (ffI (ffd B d i o n)) := by
  have h80 := hk.1
  intro d
  induction d with
  | zero =>
    intro i f o n hi hf ho
    obtain ⟨f, rfl⟩ : ∃ g, f = g + 1 := ⟨f - 1, by omega⟩
    show b_X8_findFault_6 56 M qv_TT _ (qv_lp3 _ f) (nI o) (y_b2i n) (nI i) = _
    unfold b_X8_findFault_6
    rw [zgS, h.1, if_pos (nI_le (by omega) (by omega))]
    dsimp only
    rw [zjn]
    unfold ffd
    cases n with
    | true =>
      rw [if_neg (show ¬ y_b2i true = 0 by decide), if_pos (Or.inl rfl)]
      rw [zgS, h.1]
      show some (nI B.length) = some (nI i)
      rw [show i = B.length by omega]
    | false =>
      rw [if_pos (show y_b2i false = 0 by decide)]
      by_cases c : o = 0
      · rw [if_pos (show nI o ≤ 0 by rw [c]; decide), if_neg (fun q => by
          rcases q with q | q
          · cases q
          · omega)]
        rfl
      · rw [if_neg (show ¬ nI o ≤ 0 from zi_nle (a := o) (b := 0) (by omega) (by omega)), if_pos (Or.inr (by omega)), zgS, h.1]
        show some (nI B.length) = some (nI i)
        rw [show i = B.length by omega]
  | succ d ih =>
    intro i f o n hi hf ho
    obtain ⟨f, rfl⟩ : ∃ g, f = g + 1 := ⟨f - 1, by omega⟩
    show b_X8_findFault_6 56 M qv_TT _ (qv_lp3 _ f) (nI o) (y_b2i n) (nI i) = _
    have ih1 := ih (i + 1) f
    generalize qv_lp3 (b_X8_findFault_6 56 M qv_TT (fun (v1 : Int32) (v2 : Int32) => qv_jn (fun (_ : Unit) => qv_gS 56 1 M (fun v5 => some v5)) (fun k4 => (if v2 = 0 then (if v1 ≤ 0 then some (-2) else k4 ()) else k4 ())))) f = rr at ih1 ⊢
    have hl : i < B.length := by omega
    obtain ⟨q1, q2, q3⟩ := hb_in hk hl
    unfold b_X8_findFault_6 ffd
    rw [zgS, h.1, if_neg (nI_ge hl (by omega)), zt_tpl, zi_ldI (by omega) (by omega), h.2.2 i hl, ← q1, x_gol _ (by omega), zbo, zjn, nI_1]
    by_cases c1 : glt (hb B i) < 7
    · rw [if_neg (by rw [zsn_neg]; exact fun q => q c1), if_pos c1]
      exact ih1 o false (by omega) (by omega) ho
    · rw [if_pos (by rw [zsn_neg]; exact c1), if_neg c1, zl126]
      by_cases c2 : hb B i = 126
      · rw [if_pos (by rw [c2]), if_pos c2]
        exact ih1 o true (by omega) (by omega) ho
      · rw [if_neg (fun z => c2 ((nI_eq (by omega) (by omega)).mp z)), if_neg c2, zjn]
        have k16 : ¬ (hb B i = 40 ∧ o < 4) → qv_jn (fun (_ : Unit) => qv_bo (f_X8_figureAt qv_TT 56 (nI i) M) (fun v18 => (if v18 < 0 then some (nI i) else qv_bo (f_X8_at qv_TT 56 (nI i - 1) M) (fun v19 => (if v19 = 41 then (fun (v13 : Int32) (v14 : Int32) => rr v13 v14 (nI (i + 1))) (nI o) (y_b2i n) else some (nI i)))))) (fun k17 => (if nI (hb B i) = 41 then (if nI o ≤ 0 then k17 () else (if y_b2i n = 0 then (fun (v13 : Int32) (v14 : Int32) => rr v13 v14 (nI (i + 1))) (nI o + (-1)) (y_b2i n) else k17 ())) else k17 ())) = some (ffI (if hb B i = 41 ∧ 0 < o ∧ n = false then ffd B d (i + 1) (o - 1) n else if (48 ≤ hb B i ∧ hb B i ≤ 57) ∧ 0 < i ∧ hb B (i - 1) = 41 then ffd B d (i + 1) o n else some i)) := by
          intro _
          have k17 : ¬ (hb B i = 41 ∧ 0 < o ∧ n = false) → qv_bo (f_X8_figureAt qv_TT 56 (nI i) M) (fun v18 => (if v18 < 0 then some (nI i) else qv_bo (f_X8_at qv_TT 56 (nI i - 1) M) (fun v19 => (if v19 = 41 then (fun (v13 : Int32) (v14 : Int32) => rr v13 v14 (nI (i + 1))) (nI o) (y_b2i n) else some (nI i))))) = some (ffI (if hb B i = 41 ∧ 0 < o ∧ n = false then ffd B d (i + 1) (o - 1) n else if (48 ≤ hb B i ∧ hb B i ≤ 57) ∧ 0 < i ∧ hb B (i - 1) = 41 then ffd B d (i + 1) o n else some i)) := by
            intro z
            rw [if_neg z, x_fig hk h (by omega), zbo]
            by_cases e : 48 ≤ hb B i ∧ hb B i ≤ 57
            · rw [if_pos e, if_neg (nI_pos (by omega)), x_tat1 hk h (by omega), zbo]
              by_cases g : 0 < i ∧ hb B (i - 1) = 41
              · rw [if_pos (show 0 < i ∧ i - 1 < B.length from ⟨g.1, by omega⟩), if_pos (show nI (hb B (i - 1)) = 41 by rw [g.2]; rfl), if_pos (show (48 ≤ hb B i ∧ hb B i ≤ 57) ∧ 0 < i ∧ hb B (i - 1) = 41 from ⟨e, g⟩)]
                exact ih1 o n (by omega) (by omega) ho
              · rw [if_neg (show ¬ ((48 ≤ hb B i ∧ hb B i ≤ 57) ∧ 0 < i ∧ hb B (i - 1) = 41) from fun w => g w.2)]
                by_cases g0 : 0 < i
                · have b := (hb_in hk (show i - 1 < B.length by omega)).2
                  rw [if_pos (show 0 < i ∧ i - 1 < B.length from ⟨g0, by omega⟩), show (41 : Int32) = nI 41 from rfl, if_neg (show ¬ nI (hb B (i - 1)) = nI 41 from fun w => g ⟨g0, (nI_eq (by omega) (by omega)).mp w⟩)]
                  rfl
                · rw [if_neg (show ¬ (0 < i ∧ i - 1 < B.length) from fun w => g0 w.1), if_neg (by decide)]
                  rfl
            · rw [if_neg e, if_pos (by decide), if_neg (fun w => e w.1)]
              rfl
          rw [zjn]
          by_cases e : hb B i = 41
          · rw [if_pos (by rw [e]; rfl)]
            by_cases g : o = 0
            · rw [if_pos (show nI o ≤ 0 by rw [g]; decide)]
              exact k17 (fun w => by omega)
            · rw [if_neg (show ¬ nI o ≤ 0 from zi_nle (a := o) (b := 0) (by omega) (by omega))]
              cases n with
              | true =>
                rw [if_neg (show ¬ y_b2i true = 0 by decide)]
                exact k17 (fun w => Bool.noConfusion w.2.2)
              | false =>
                rw [if_pos (show y_b2i false = 0 by decide), if_pos ⟨e, by omega, rfl⟩, zi_m1', show nI o - 1 = nI (o - 1) by rw [zl1i, zi_sub (by omega) (by omega)]]
                exact ih1 (o - 1) false (by omega) (by omega) (by omega)
          · rw [show (41 : Int32) = nI 41 from rfl, if_neg (fun w => e ((nI_eq (by omega) (by omega)).mp w))]
            exact k17 (fun w => e w.1)
        by_cases c3 : hb B i = 40
        · rw [show (40 : Int32) = nI 40 from rfl, if_pos (by rw [c3]), zl4]
          by_cases c4 : o < 4
          · rw [if_neg (zi_nle (a := 4) (b := o) (by omega) (by omega)), if_pos ⟨c3, c4⟩, nI_1]
            exact ih1 (o + 1) true (by omega) (by omega) (by omega)
          · rw [if_pos (nI_le (by omega) (by omega)), if_neg (fun w => c4 w.2)]
            exact k16 (fun w => c4 w.2)
        · rw [show (40 : Int32) = nI 40 from rfl, if_neg (fun w => c3 ((nI_eq (by omega) (by omega)).mp w)), if_neg (fun w => c3 w.1)]
          exact k16 (fun w => c3 w.1)
theorem x_findFault {M : qv_Mem} {B : List Nat} (hk : zBk B) (h : zTp M B) : f_X8_findFault qv_TT 56 M = some (ffI (FF B 0 0 true)) := by
  have h80 := hk.1
  unfold f_X8_findFault
  rw [zjn, zi_0]
  have k := x_ff6 hk h B.length 0 qv_N 0 true (by omega) (qv_N_gt _ (by omega)) (by omega)
  exact k
