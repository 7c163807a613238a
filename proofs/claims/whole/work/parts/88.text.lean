/-! Texts: what they say. -/
def hb (B : List Nat) (p : Nat) : Nat := B.getD p 300
def glt (b : Nat) : Nat := if b = 72 then 0 else if b = 83 then 2 else if b = 84 then 1 else if b = 85 then 6 else if b = 87 then 5 else if b = 88 then 3 else if b = 90 then 4 else 9
def bgn (B : List Nat) (p o : Nat) : Bool := decide (glt (hb B p) < 7) || (decide (hb B p = 126) || (decide (hb B p = 40) && decide (o < 4)))
def twO (v : Option (List Nat)) : Option (List Nat) := match v with
  | none => none
  | some l => if (zq_inv l).length ≤ 60 then some (zq_inv l) else none
def rpl : Nat → List Nat → List Nat
  | 0, _ => []
  | t + 1, l => rpl t l ++ l
def rpO (t : Nat) (v : Option (List Nat)) : Option (List Nat) := match v with
  | none => none
  | some l => if l.length * t ≤ 60 then some (rpl t l) else none
def catO (a v : Option (List Nat)) : Option (List Nat) := match a, v with
  | some c, some l => if (c ++ l).length ≤ 60 then some (c ++ l) else none
  | _, _ => none
abbrev PR : Type := Bool × Nat × Option (List Nat)
def isd (b : Nat) : Prop := 48 ≤ b ∧ b ≤ 57
def fig (B : List Nat) (q : Nat) : Nat := if 48 ≤ hb B q ∧ hb B q ≤ 57 then hb B q - 48 else 1
def afd (B : List Nat) (q : Nat) : Nat := if 48 ≤ hb B q ∧ hb B q ≤ 57 then q + 1 else q
def itemF (B : List Nat) (ri rs : Nat → Nat → PR) (p o : Nat) : PR :=
  if glt (hb B p) < 7 then (true, p + 1, some [glt (hb B p)])
  else if hb B p = 126 then
    (if bgn B (p + 1) o = true then
      (if (ri (p + 1) o).1 = true then (true, (ri (p + 1) o).2.1, twO (ri (p + 1) o).2.2) else (false, (ri (p + 1) o).2.1, none))
    else (false, p + 1, none))
  else
    (if (rs (p + 1) (o + 1)).1 = true then
      (if hb B (rs (p + 1) (o + 1)).2.1 = 41 then (true, afd B ((rs (p + 1) (o + 1)).2.1 + 1), rpO (fig B ((rs (p + 1) (o + 1)).2.1 + 1)) (rs (p + 1) (o + 1)).2.2)
      else (false, (rs (p + 1) (o + 1)).2.1, none))
    else (false, (rs (p + 1) (o + 1)).2.1, none))
def pLp (B : List Nat) (ri : Nat → Nat → PR) (o : Nat) : Nat → Nat → Option (List Nat) → PR
  | 0, p, _ => (false, p, none)
  | m + 1, p, acc => if bgn B p o = true then (if (ri p o).1 = true then pLp B ri o m (ri p o).2.1 (catO acc (ri p o).2.2) else (false, (ri p o).2.1, none)) else (true, p, acc)
def itemsF (B : List Nat) (ri : Nat → Nat → PR) (p o : Nat) : PR := if bgn B p o = true then pLp B ri o 81 p (some []) else (false, p, none)
def pIt (B : List Nat) : Nat → (Nat → Nat → PR) × (Nat → Nat → PR)
  | 0 => (fun p _ => (false, p, none), fun p _ => (false, p, none))
  | n + 1 => (itemF B (pIt B n).1 (pIt B n).2, itemsF B (pIt B n).1)
theorem glt_300 : ¬ glt 300 < 7 := by decide
theorem bgn_lt {B : List Nat} {p o : Nat} (h : bgn B p o = true) : p < B.length := by
  by_cases c : p < B.length
  · exact c
  · exfalso
    have e : hb B p = 300 := by
      unfold hb
      rw [List.getD_eq_getElem?_getD, List.getElem?_eq_none (by omega)]
      rfl
    unfold bgn at h
    rw [e] at h
    simp [glt_300] at h
theorem hb_lt {B : List Nat} {p : Nat} (h : hb B p ≠ 300) : p < B.length := by
  by_cases c : p < B.length
  · exact c
  · exfalso
    apply h
    unfold hb
    rw [List.getD_eq_getElem?_getD, List.getElem?_eq_none (by omega)]
    rfl
theorem bgn_3 {B : List Nat} {p o : Nat} (h : bgn B p o = true) (h1 : ¬ glt (hb B p) < 7) (h2 : hb B p ≠ 126) : hb B p = 40 ∧ o < 4 := by
  unfold bgn at h
  simp [h1, h2] at h
  exact h
theorem bgn_n {B : List Nat} {p o : Nat} (h : ¬ bgn B p o = true) : ¬ glt (hb B p) < 7 ∧ hb B p ≠ 126 ∧ ¬ (hb B p = 40 ∧ o < 4) := by
  unfold bgn at h
  simp at h
  refine ⟨by omega, h.2.1, fun q => ?_⟩
  have := h.2.2 q.1
  omega
theorem glt_not {b : Nat} (h : glt b < 7) : b ≠ 126 ∧ b ≠ 40 ∧ b ≠ 41 ∧ ¬ (48 ≤ b ∧ b ≤ 57) ∧ b ≠ 300 := by
  unfold glt at h
  repeat' (split at h; (· omega))
  omega
/-! the class's look for a fault -/
def ffd (B : List Nat) : Nat → Nat → Nat → Bool → Option Nat
  | 0, i, o, n => if n = true ∨ 0 < o then some i else none
  | d + 1, i, o, n =>
    if glt (hb B i) < 7 then ffd B d (i + 1) o false
    else if hb B i = 126 then ffd B d (i + 1) o true
    else if hb B i = 40 ∧ o < 4 then ffd B d (i + 1) (o + 1) true
    else if hb B i = 41 ∧ 0 < o ∧ n = false then ffd B d (i + 1) (o - 1) n
    else if (48 ≤ hb B i ∧ hb B i ≤ 57) ∧ 0 < i ∧ hb B (i - 1) = 41 then ffd B d (i + 1) o n
    else some i
def FF (B : List Nat) (i o : Nat) (n : Bool) : Option Nat := ffd B (B.length - i) i o n
theorem FF_lt {B : List Nat} {i o : Nat} {n : Bool} (h : i < B.length) : FF B i o n = (if glt (hb B i) < 7 then FF B (i + 1) o false
    else if hb B i = 126 then FF B (i + 1) o true
    else if hb B i = 40 ∧ o < 4 then FF B (i + 1) (o + 1) true
    else if hb B i = 41 ∧ 0 < o ∧ n = false then FF B (i + 1) (o - 1) n
    else if (48 ≤ hb B i ∧ hb B i ≤ 57) ∧ 0 < i ∧ hb B (i - 1) = 41 then FF B (i + 1) o n
    else some i) := by
  unfold FF
  rw [show B.length - i = (B.length - (i + 1)) + 1 by omega]
  rfl
theorem FF_end {B : List Nat} {o : Nat} {n : Bool} : FF B B.length o n = if n = true ∨ 0 < o then some B.length else none := by
  unfold FF
  rw [Nat.sub_self]
  rfl
theorem FF_nb {B : List Nat} {p o : Nat} {n : Bool} (hp : p ≤ B.length) (h : ¬ bgn B p o = true) (hn : n = true ∨ (0 < o ∧ hb B p ≠ 41) ∨ (o = 0 ∧ p < B.length)) (hd : ¬ ((48 ≤ hb B p ∧ hb B p ≤ 57) ∧ 0 < p ∧ hb B (p - 1) = 41)) : FF B p o n = some p := by
  obtain ⟨h1, h2, h3⟩ := bgn_n h
  by_cases c : p < B.length
  · rw [FF_lt c, if_neg h1, if_neg h2, if_neg h3, if_neg (fun q => by
      rcases hn with z | z | z
      · rw [z] at q; exact Bool.noConfusion q.2.2
      · exact z.2 q.1
      · omega), if_neg hd]
  · have e : p = B.length := by omega
    rw [e, FF_end, if_pos (by
      rcases hn with z | z | z
      · exact Or.inl z
      · exact Or.inr z.1
      · omega)]
def Eq1 (B : List Nat) (q : Nat) : Prop := ¬ ((48 ≤ hb B q ∧ hb B q ≤ 57) ∧ 0 < q ∧ hb B (q - 1) = 41)
/-- an item, for the look -/
def FI (B : List Nat) (ri : Nat → Nat → PR) (n : Nat) : Prop := ∀ p o nd, o ≤ 4 → 2 * (B.length - p) + 1 ≤ n → bgn B p o = true → ((ri p o).1 = true → FF B p o nd = FF B (ri p o).2.1 o false ∧ p < (ri p o).2.1 ∧ (ri p o).2.1 ≤ B.length ∧ Eq1 B (ri p o).2.1) ∧ ((ri p o).1 = false → FF B p o nd = some (ri p o).2.1 ∧ (ri p o).2.1 ≤ B.length)
def FS (B : List Nat) (rs : Nat → Nat → PR) (n : Nat) : Prop := ∀ p o, o ≤ 4 → p ≤ B.length → 2 * (B.length - p) + 2 ≤ n → (0 < p → hb B (p - 1) ≠ 41) → ((rs p o).1 = true → FF B p o true = FF B (rs p o).2.1 o false ∧ p < (rs p o).2.1 ∧ (rs p o).2.1 ≤ B.length ∧ Eq1 B (rs p o).2.1 ∧ ¬ bgn B (rs p o).2.1 o = true) ∧ ((rs p o).1 = false → FF B p o true = some (rs p o).2.1 ∧ (rs p o).2.1 ≤ B.length)
theorem F_loop {B : List Nat} {ri : Nat → Nat → PR} {n o : Nat} (ho : o ≤ 4) (hI : FI B ri n) : ∀ (m p : Nat) (acc : Option (List Nat)) (nd : Bool), p ≤ B.length → 2 * (B.length - p) + 1 ≤ n → B.length - p < m → (bgn B p o = true ∨ (nd = false ∧ Eq1 B p)) → ((pLp B ri o m p acc).1 = true → FF B p o nd = FF B (pLp B ri o m p acc).2.1 o false ∧ (bgn B p o = true → p < (pLp B ri o m p acc).2.1) ∧ (pLp B ri o m p acc).2.1 ≤ B.length ∧ Eq1 B (pLp B ri o m p acc).2.1 ∧ ¬ bgn B (pLp B ri o m p acc).2.1 o = true) ∧ ((pLp B ri o m p acc).1 = false → FF B p o nd = some (pLp B ri o m p acc).2.1 ∧ (pLp B ri o m p acc).2.1 ≤ B.length) := by
  intro m
  induction m with
  | zero => intro p acc nd hp hn hm; omega
  | succ m ih =>
    intro p acc nd hp hn hm hb
    unfold pLp
    by_cases c : bgn B p o = true
    · rw [if_pos c]
      obtain ⟨i1, i2⟩ := hI p o nd ho hn c
      by_cases d : (ri p o).1 = true
      · rw [if_pos d]
        obtain ⟨j1, j2, j3, j4⟩ := i1 d
        obtain ⟨k1, k2⟩ := ih (ri p o).2.1 (catO acc (ri p o).2.2) false j3 (by omega) (by omega) (Or.inr ⟨rfl, j4⟩)
        refine ⟨fun q => ?_, fun q => ?_⟩
        · obtain ⟨l1, l2, l3, l4, l5⟩ := k1 q
          refine ⟨j1.trans l1, fun _ => ?_, l3, l4, l5⟩
          by_cases z : bgn B (ri p o).2.1 o = true
          · exact Nat.lt_trans j2 (l2 z)
          · have e : pLp B ri o m (ri p o).2.1 (catO acc (ri p o).2.2) = (true, (ri p o).2.1, catO acc (ri p o).2.2) := by
              cases m with
              | zero =>
                exfalso
                omega
              | succ m => unfold pLp; rw [if_neg z]
            rw [e]
            exact j2
        · obtain ⟨l1, l2⟩ := k2 q
          exact ⟨j1.trans l1, l2⟩
      · rw [if_neg d]
        rw [Bool.not_eq_true] at d
        obtain ⟨j1, j2⟩ := i2 d
        exact ⟨fun q => (by cases q), fun _ => ⟨j1, j2⟩⟩
    · rw [if_neg c]
      rcases hb with z | ⟨z1, z2⟩
      · exact absurd z c
      · exact ⟨fun _ => ⟨by rw [z1], fun z => absurd z c, hp, z2, c⟩, fun q => (by cases q)⟩
theorem F_items {B : List Nat} {ri : Nat → Nat → PR} {n : Nat} (h80 : B.length ≤ 80) (hI : FI B ri n) : FS B (itemsF B ri) (n + 1) := by
  intro p o ho hp hn h41
  unfold itemsF
  by_cases c : bgn B p o = true
  · rw [if_pos c]
    obtain ⟨k1, k2⟩ := F_loop ho hI 81 p (some []) true hp (by omega) (by omega) (Or.inl c)
    exact ⟨fun q => ⟨(k1 q).1, (k1 q).2.1 c, (k1 q).2.2.1, (k1 q).2.2.2.1, (k1 q).2.2.2.2⟩, k2⟩
  · rw [if_neg c]
    exact ⟨fun q => (by cases q), fun _ => ⟨FF_nb hp c (Or.inl rfl) (fun q => h41 q.2.1 q.2.2), hp⟩⟩
theorem afd_in {B : List Nat} {q : Nat} (h : q ≤ B.length) : q ≤ afd B q ∧ afd B q ≤ B.length := by
  unfold afd
  split
  · rename_i c
    have := hb_lt (B := B) (p := q) (by omega)
    omega
  · omega
theorem F_item {B : List Nat} {ri rs : Nat → Nat → PR} {n : Nat} (hI : FI B ri n) (hS : FS B rs n) : FI B (itemF B ri rs) (n + 1) := by
  intro p o nd ho hn hbg
  have hp := bgn_lt hbg
  unfold itemF
  by_cases c1 : glt (hb B p) < 7
  · rw [if_pos c1]
    refine ⟨fun _ => ⟨?_, Nat.lt_succ_self _, hp, fun q => ?_⟩, fun q => (by cases q)⟩
    · rw [FF_lt hp, if_pos c1]
    · have := (glt_not c1).2.2.1
      exact this (by have := q.2.2; rwa [show p + 1 - 1 = p by omega] at this)
  · rw [if_neg c1]
    by_cases c2 : hb B p = 126
    · rw [if_pos c2]
      have f1 : FF B p o nd = FF B (p + 1) o true := by rw [FF_lt hp, if_neg c1, if_pos c2]
      by_cases c3 : bgn B (p + 1) o = true
      · rw [if_pos c3]
        obtain ⟨i1, i2⟩ := hI (p + 1) o true ho (by omega) c3
        by_cases d : (ri (p + 1) o).1 = true
        · rw [if_pos d]
          obtain ⟨j1, j2, j3, j4⟩ := i1 d
          exact ⟨fun _ => ⟨f1.trans j1, Nat.lt_trans (Nat.lt_succ_self _) j2, j3, j4⟩, fun q => (by cases q)⟩
        · rw [if_neg d]
          rw [Bool.not_eq_true] at d
          obtain ⟨j1, j2⟩ := i2 d
          exact ⟨fun q => (by cases q), fun _ => ⟨f1.trans j1, j2⟩⟩
      · rw [if_neg c3]
        refine ⟨fun q => (by cases q), fun _ => ⟨f1.trans (FF_nb (by omega) c3 (Or.inl rfl) (fun q => ?_)), show p + 1 ≤ B.length by omega⟩⟩
        have := q.2.2
        rw [show p + 1 - 1 = p by omega] at this
        omega
    · rw [if_neg c2]
      obtain ⟨b1, b2⟩ := bgn_3 hbg c1 c2
      have f1 : FF B p o nd = FF B (p + 1) (o + 1) true := by rw [FF_lt hp, if_neg c1, if_neg c2, if_pos ⟨b1, b2⟩]
      obtain ⟨s1, s2⟩ := hS (p + 1) (o + 1) (by omega) (by omega) (by omega) (fun _ => by rw [show p + 1 - 1 = p by omega]; omega)
      by_cases d : (rs (p + 1) (o + 1)).1 = true
      · rw [if_pos d]
        obtain ⟨j1, j2, j3, j4, j5⟩ := s1 d
        generalize (rs (p + 1) (o + 1)).2.1 = q at j1 j2 j3 j4 j5 ⊢
        by_cases e : hb B q = 41
        · rw [if_pos e]
          have hq := hb_lt (B := B) (p := q) (by omega)
          obtain ⟨g1, g2, g3⟩ := bgn_n j5
          have f2 : FF B q (o + 1) false = FF B (q + 1) o false := by
            rw [FF_lt hq, if_neg g1, if_neg g2, if_neg g3, if_pos ⟨e, by omega, rfl⟩, show o + 1 - 1 = o by omega]
          have f3 : FF B (q + 1) o false = FF B (afd B (q + 1)) o false := by
            unfold afd
            split
            · rename_i z
              have hq1 := hb_lt (B := B) (p := q + 1) (by omega)
              have n1 : ¬ glt (hb B (q + 1)) < 7 := fun w => (glt_not w).2.2.2.1 z
              rw [FF_lt hq1, if_neg n1, if_neg (by omega), if_neg (by omega), if_neg (by omega), if_pos ⟨z, by omega, by rw [show q + 1 - 1 = q by omega]; exact e⟩]
            · rfl
          have a := afd_in (B := B) (q := q + 1) (by omega)
          refine ⟨fun _ => ⟨f1.trans (j1.trans (f2.trans f3)), show p < afd B (q + 1) by omega, a.2, ?_⟩, fun q => (by cases q)⟩
          intro z
          unfold afd at z
          split at z
          · rename_i w
            have := z.2.2
            rw [show q + 1 + 1 - 1 = q + 1 by omega] at this
            omega
          · rename_i w
            exact w z.1
        · rw [if_neg e]
          exact ⟨fun q => (by cases q), fun _ => ⟨f1.trans (j1.trans (FF_nb j3 j5 (Or.inr (Or.inl ⟨by omega, e⟩)) j4)), j3⟩⟩
      · rw [if_neg d]
        rw [Bool.not_eq_true] at d
        obtain ⟨j1, j2⟩ := s2 d
        exact ⟨fun q => (by cases q), fun _ => ⟨f1.trans j1, j2⟩⟩
theorem F_all {B : List Nat} (h80 : B.length ≤ 80) : ∀ n, FI B (pIt B n).1 n ∧ FS B (pIt B n).2 n
  | 0 => ⟨fun p o nd ho hn hbg => by omega, fun p o ho hp hn h41 => by omega⟩
  | n + 1 => ⟨F_item (F_all h80 n).1 (F_all h80 n).2, F_items h80 (F_all h80 n).1⟩
/-- what a whole text says -/
def pT (B : List Nat) : PR := (pIt B 200).2 0 0
theorem FF_top {B : List Nat} (h80 : B.length ≤ 80) : FF B 0 0 true = if (pT B).1 = true ∧ (pT B).2.1 = B.length then none else some (pT B).2.1 := by
  obtain ⟨k1, k2⟩ := (F_all h80 200).2 0 0 (by omega) (by omega) (by omega) (fun h => by omega)
  have e : (pIt B 200).2 0 0 = pT B := rfl
  rw [e] at k1 k2
  by_cases c : (pT B).1 = true
  · obtain ⟨j1, j2, j3, j4, j5⟩ := k1 c
    rw [j1]
    by_cases d : (pT B).2.1 = B.length
    · rw [if_pos ⟨c, d⟩, d, FF_end, if_neg (fun q => by
        rcases q with q | q
        · cases q
        · omega)]
    · rw [if_neg (fun q => d q.2)]
      exact FF_nb j3 j5 (Or.inr (Or.inr ⟨rfl, by omega⟩)) j4
  · rw [if_neg (fun q => c q.1)]
    rw [Bool.not_eq_true] at c
    exact (k2 c).1
