/-! The class's rows: same, counts, costs. -/
def w_sb (l l1 : List Nat) (i : Nat) : Nat → Bool
  | 0 => true
  | n + 1 => decide (l.getD i 0 = l1.getD i 0) && w_sb l l1 (i + 1) n
theorem w_sb_iff (l l1 : List Nat) : ∀ (n i : Nat), w_sb l l1 i n = true ↔ ∀ j, i ≤ j → j < i + n → l.getD j 0 = l1.getD j 0
  | 0, i => ⟨fun _ j a b => by omega, fun _ => rfl⟩
  | n + 1, i => by
    unfold w_sb
    rw [Bool.and_eq_true, decide_eq_true_iff, w_sb_iff l l1 n (i + 1)]
    constructor
    · intro h j a b
      by_cases hj : j = i
      · rw [hj]; exact h.1
      · exact h.2 j (by omega) (by omega)
    · intro h
      exact ⟨h i (Nat.le_refl _) (by omega), fun j a b => h j (by omega) (by omega)⟩
theorem w_same_lp {T : List qv_Ent} {t t1 p p1 : Nat} (hp : qv_rf T t 0 = p) (hp1 : qv_rf T t1 0 = p1) {M : qv_Mem} {l l1 : List Nat} (h : zR M t p l) (h1 : zR M t1 p1 l1) (hl : l.length = l1.length) (hg : ∀ i, l.getD i 0 < 7) (hg1 : ∀ i, l1.getD i 0 < 7) : ∀ (n i f : Nat), i + n = l.length → n < f → qv_lp1 (b_X6_isSame_15 t t1 M T (fun _ => some 1)) f (nI i) = some (if w_sb l l1 i n = true then 1 else 0) := by
  have h60 := h.2.1
  intro n
  induction n with
  | zero =>
    intro i f hi hf
    obtain ⟨f, rfl⟩ : ∃ g, f = g + 1 := ⟨f - 1, by omega⟩
    rw [zN1]
    unfold b_X6_isSame_15
    rw [zgS, h.1, if_pos (nI_le (by omega) (by omega))]
    rfl
  | succ n ih =>
    intro i f hi hf
    obtain ⟨f, rfl⟩ : ∃ g, f = g + 1 := ⟨f - 1, by omega⟩
    rw [zN1]
    generalize hrr : qv_lp1 (b_X6_isSame_15 t t1 M T (fun _ => some 1)) f = rr
    unfold b_X6_isSame_15
    rw [zgS, h.1, if_neg (nI_ge (show i < l.length by omega) (by omega)), hp, hp1, zi_ldI (by omega) (by omega), zi_ldI (by omega) (by omega), h.2.2 i (by omega), h1.2.2 i (by omega)]
    have a1 := hg i
    have a2 := hg1 i
    unfold w_sb
    by_cases he : l.getD i 0 = l1.getD i 0
    · rw [if_pos (by rw [he]), nI_1, ← hrr, ih (i + 1) f (by omega) (by omega), decide_eq_true he, Bool.true_and]
    · rw [if_neg (fun q => he ((nI_eq (by omega) (by omega)).mp q)), decide_eq_false he]
      rfl
theorem zl_ext {l l1 : List Nat} (hl : l.length = l1.length) (h : ∀ j, j < l.length → l.getD j 0 = l1.getD j 0) : l = l1 := by
  apply List.ext_getElem hl
  intro i h1 h2
  have := h i h1
  simpa [List.getD_eq_getElem?_getD, h1, h2] using this
theorem zg_get {l : List Nat} (h : ∀ g ∈ l, g < 7) (i : Nat) : l.getD i 0 < 7 := by
  by_cases hi : i < l.length
  · have : l.getD i 0 = l[i] := by simp [List.getD_eq_getElem?_getD, hi]
    rw [this]
    exact h _ (List.getElem_mem hi)
  · have : l.getD i 0 = 0 := by simp [List.getD_eq_getElem?_getD, List.getElem?_eq_none (show l.length ≤ i by omega)]
    omega
theorem w_isSame {T : List qv_Ent} {t t1 p p1 : Nat} (hp : qv_rf T t 0 = p) (hp1 : qv_rf T t1 0 = p1) {M : qv_Mem} {l l1 : List Nat} (h : zR M t p l) (h1 : zR M t1 p1 l1) (hg : ∀ g ∈ l, g < 7) (hg1 : ∀ g ∈ l1, g < 7) : (l = l1 → f_X6_isSame T t t1 M = some 1) ∧ (l ≠ l1 → f_X6_isSame T t t1 M = some 0) := by
  have h60 := h.2.1
  have h61 := h1.2.1
  have key : f_X6_isSame T t t1 M = if l.length = l1.length then qv_lp1 (b_X6_isSame_15 t t1 M T (fun _ => some 1)) qv_N (nI 0) else some 0 := by
    unfold f_X6_isSame
    rw [zgS, zgS, h.1, h1.1]
    by_cases e : l.length = l1.length
    · rw [if_pos e, if_pos (by rw [e]), zjn, zi_0]
    · rw [if_neg e, if_neg (fun q => e ((nI_eq (by omega) (by omega)).mp q))]
  constructor
  · intro e
    rw [key, if_pos (by rw [e]), w_same_lp hp hp1 h h1 (by rw [e]) (zg_get hg) (zg_get hg1) l.length 0 qv_N (by omega) (qv_N_gt _ (by omega)), if_pos ((w_sb_iff _ _ _ _).mpr (fun j _ _ => by rw [e]))]
  · intro e
    rw [key]
    by_cases el : l.length = l1.length
    · rw [if_pos el, w_same_lp hp hp1 h h1 el (zg_get hg) (zg_get hg1) l.length 0 qv_N (by omega) (qv_N_gt _ (by omega)), if_neg (fun q => e (zl_ext el (fun j hj => (w_sb_iff _ _ _ _).mp q j (Nat.zero_le _) (by omega))))]
    · rw [if_neg el]
/-- how often a gate stands in the first n places -/
def w_cn (l : List Nat) (g : Nat) : Nat → Nat
  | 0 => 0
  | n + 1 => w_cn l g n + (if l.getD n 0 = g then 1 else 0)
theorem w_cn_le (l : List Nat) (g : Nat) : ∀ n, w_cn l g n ≤ n
  | 0 => Nat.le_refl _
  | n + 1 => by
    have := w_cn_le l g n
    unfold w_cn
    split <;> omega
theorem w_countOf {T : List qv_Ent} {t p : Nat} (hp : qv_rf T t 0 = p) {M : qv_Mem} {l : List Nat} (h : zR M t p l) (hg : ∀ g ∈ l, g < 7) {g : Nat} (hg7 : g < 7) : f_X6_countOf T t (nI g) M = some (nI (w_cn l g l.length)) := by
  have h60 := h.2.1
  unfold f_X6_countOf
  rw [zjn, zi_0]
  refine zfor2c (b := b_X6_countOf_4 t (nI g) M T (fun v1 => some v1)) (fun i => nI (w_cn l g i)) (fun i => nI i) 0 l.length (by omega) (fun i r _ hi => ?_) (fun r => ?_) qv_N (qv_N_gt _ (by omega))
  · unfold b_X6_countOf_4
    dsimp only
    have a1 := zg_get hg i
    rw [zgS, h.1, if_neg (nI_ge hi (by omega)), hp, zi_ldI (by omega) (by omega), h.2.2 i hi, zjn, nI_1, nI_1]
    show _ = r (nI (w_cn l g i + (if l.getD i 0 = g then 1 else 0))) _
    by_cases e : l.getD i 0 = g
    · rw [if_pos e, if_pos (by rw [e])]
    · rw [if_neg e, if_neg (fun q => e ((nI_eq (by omega) (by omega)).mp q))]
      rfl
  · unfold b_X6_countOf_4
    dsimp only
    rw [zgS, h.1, if_pos (nI_le (Nat.le_refl _) (by omega))]
def w_co (l : List Nat) (P : Nat → Nat) : Nat → Nat
  | 0 => 0
  | n + 1 => w_co l P n + P (l.getD n 0)
theorem w_costBy {T : List qv_Ent} {t p t1 : Nat} (hp : qv_rf T t 0 = p) {M : qv_Mem} {l : List Nat} {P : Nat → Nat} (h : zR M t p l) (hg : ∀ g ∈ l, g < 7) (hP : ∀ g, g < 7 → M.1 t1 g = nI (P g)) : f_X6_costBy T t t1 M = some (nI (w_co l P l.length)) := by
  have h60 := h.2.1
  unfold f_X6_costBy
  rw [zjn, zi_0]
  refine zfor2c (b := b_X6_costBy_4 t t1 M T (fun v1 => some v1)) (fun i => nI (w_co l P i)) (fun i => nI i) 0 l.length (by omega) (fun i r _ hi => ?_) (fun r => ?_) qv_N (qv_N_gt _ (by omega))
  · unfold b_X6_costBy_4
    dsimp only
    have a1 := zg_get hg i
    rw [zgS, h.1, if_neg (nI_ge hi (by omega)), hp, zi_ldI (by omega) (by omega), h.2.2 i hi, zi_ldI (by omega) (by omega), hP _ a1, nI_1, nI_add]
    rfl
  · unfold b_X6_costBy_4
    dsimp only
    rw [zgS, h.1, if_pos (nI_le (Nat.le_refl _) (by omega))]
/-! Shortening. -/
def s_out (a b : Nat) : Bool := (a == b && (a == 0 || a == 3 || a == 4)) || ((a == 1 && b == 6) || (a == 6 && b == 1))
def s_jn (a b : Nat) : Nat := if a = 1 ∧ b = 1 then 2 else if a = 2 ∧ b = 2 then 4 else if (a = 2 ∧ b = 6) ∨ (a = 6 ∧ b = 2) then 1 else 9
def zsn (b : Nat) : Int32 := if b < 7 then nI b else -2
theorem w_goesOut : ∀ a, a < 7 → ∀ b, b < 10 → f_X6_goesOut (zsn a) (zsn b) = some (if s_out a b = true then 1 else 0) := by decide +kernel
theorem w_joinOf : ∀ a, a < 7 → ∀ b, b < 10 → f_X6_joinOf (zsn a) (zsn b) = some (zsn (s_jn a b)) := by decide +kernel
def s_w8 (l : List Nat) (i : Nat) : Nat → Bool
  | 0 => true
  | n + 1 => decide (l.getD (i + (8 - (n + 1))) 9 = 5) && s_w8 l i n
def s_at (l : List Nat) (i : Nat) : Option (List Nat) :=
  if s_out (l.getD i 9) (l.getD (i + 1) 9) = true then some (l.take i ++ l.drop (i + 2))
  else if s_w8 l i 8 = true then some (l.take i ++ l.drop (i + 8))
  else if l.getD i 9 = 6 ∧ l.getD (i + 1) 9 = 6 then some ((l.set i 2).set (i + 1) 4)
  else if s_jn (l.getD i 9) (l.getD (i + 1) 9) < 7 then some ((l.set i (s_jn (l.getD i 9) (l.getD (i + 1) 9))).take (i + 1) ++ (l.set i (s_jn (l.getD i 9) (l.getD (i + 1) 9))).drop (i + 1 + 1))
  else none
theorem zg_get9 {l : List Nat} (h : ∀ g ∈ l, g < 7) (i : Nat) : (i < l.length → l.getD i 9 = l.getD i 0 ∧ l.getD i 9 < 7) ∧ (l.length ≤ i → l.getD i 9 = 9) := by
  constructor
  · intro hi
    have e1 : l.getD i 9 = l[i] := by simp [List.getD_eq_getElem?_getD, hi]
    have e2 : l.getD i 0 = l[i] := by simp [List.getD_eq_getElem?_getD, hi]
    rw [e1, e2]
    exact ⟨rfl, h _ (List.getElem_mem hi)⟩
  · intro hi
    simp [List.getD_eq_getElem?_getD, List.getElem?_eq_none hi]
theorem zg_get10 {l : List Nat} (h : ∀ g ∈ l, g < 7) (i : Nat) : l.getD i 9 < 10 := by
  by_cases hi : i < l.length
  · have := ((zg_get9 h i).1 hi).2
    omega
  · rw [(zg_get9 h i).2 (by omega)]
    omega
theorem w_atn {T : List qv_Ent} {t p : Nat} (hp : qv_rf T t 0 = p) {M : qv_Mem} {l : List Nat} (h : zR M t p l) (hg : ∀ g ∈ l, g < 7) {i : Nat} (hi : i < 1000) : f_X6_at T t (nI i) M = some (zsn (l.getD i 9)) := by
  have h60 := h.2.1
  by_cases hl : i < l.length
  · obtain ⟨e1, e2⟩ := (zg_get9 hg i).1 hl
    rw [w_at hp h hl]
    unfold zsn
    rw [if_pos e2, e1]
  · rw [w_at0 h (q := nI i) (by unfold zr; rw [nI_toInt (by omega)]; omega), (zg_get9 hg i).2 (by omega)]
    rfl
theorem zsn5 {b : Nat} (hb : b < 10) : (zsn b = nI 5) = (b = 5) := by
  have : ∀ b, b < 10 → ((zsn b = nI 5) ↔ (b = 5)) := by decide +kernel
  exact propext (this b hb)
theorem w_s8 {T : List qv_Ent} {t p : Nat} (hp : qv_rf T t 0 = p) {M : qv_Mem} {l : List Nat} (h : zR M t p l) (hg : ∀ g ∈ l, g < 7) {i : Nat} (hi : i < 900) : ∀ (n j f : Nat), j + n = 8 → n < f → qv_lp1 (b_X6_standsEightTimes_2 t (nI 5) (nI i) M T (fun _ => some 1)) f (nI j) = some (if s_w8 l i n = true then 1 else 0) := by
  intro n
  induction n with
  | zero =>
    intro j f hj hf
    obtain ⟨f, rfl⟩ : ∃ g, f = g + 1 := ⟨f - 1, by omega⟩
    rw [zN1]
    unfold b_X6_standsEightTimes_2
    rw [zl8i, if_pos (nI_le (by omega) (by omega))]
    rfl
  | succ n ih =>
    intro j f hj hf
    obtain ⟨f, rfl⟩ : ∃ g, f = g + 1 := ⟨f - 1, by omega⟩
    rw [zN1]
    generalize hrr : qv_lp1 (b_X6_standsEightTimes_2 t (nI 5) (nI i) M T (fun _ => some 1)) f = rr
    unfold b_X6_standsEightTimes_2
    have hb := zg_get10 hg (i + j)
    rw [zl8i, if_neg (zi_nle (a := 8) (b := j) (by omega) (by omega)), nI_add, w_atn hp h hg (by omega), zbo]
    have ej : 8 - (n + 1) = j := by omega
    unfold s_w8
    rw [ej]
    by_cases e : l.getD (i + j) 9 = 5
    · rw [if_pos (by rw [zsn5 hb]; exact e), nI_1, ← hrr, ih (j + 1) f (by omega) (by omega), e]
      rfl
    · rw [if_neg (by rw [zsn5 hb]; exact e), decide_eq_false e]
      rfl
theorem w_standsEightTimes {T : List qv_Ent} {t p : Nat} (hp : qv_rf T t 0 = p) {M : qv_Mem} {l : List Nat} (h : zR M t p l) (hg : ∀ g ∈ l, g < 7) {i : Nat} (hi : i < 900) : f_X6_standsEightTimes T t (nI 5) (nI i) M = some (if s_w8 l i 8 = true then 1 else 0) := by
  unfold f_X6_standsEightTimes
  rw [zjn, zi_0]
  exact w_s8 hp h hg hi 8 0 qv_N rfl (qv_N_gt _ (by omega))
