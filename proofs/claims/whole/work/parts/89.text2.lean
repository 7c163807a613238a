/-! Texts: the class's way to work them out. -/
def tI (c : Nat) : Nat → List Nat → Option (List Nat)
  | 0, x => some x
  | t + 1, x => if c + (zq_inv x).length ≤ 60 then tI c t (zq_inv x) else none
def twn : Nat → Option (List Nat) → Option (List Nat)
  | 0, v => v
  | t + 1, v => twn t (twO v)
theorem inv1_len (g : Nat) : 1 ≤ (zq_inv1 g).length := by
  unfold zq_inv1
  split
  · decide
  · split
    · decide
    · split
      · decide
      · split
        · decide
        · exact Nat.le_refl 1
theorem inv_len : ∀ x : List Nat, x.length ≤ (zq_inv x).length
  | [] => Nat.zero_le _
  | g :: x => by
    have a := inv_len x
    have b := inv1_len g
    show x.length + 1 ≤ (zq_inv x ++ zq_inv1 g).length
    rw [List.length_append]
    omega
theorem twn_none : ∀ t, twn t none = none
  | 0 => rfl
  | t + 1 => twn_none t
theorem twn_len : ∀ (t : Nat) (x y : List Nat), twn t (some x) = some y → x.length ≤ y.length
  | 0, x, y, h => by
    have : x = y := Option.some.inj h
    rw [this]
    exact Nat.le_refl _
  | t + 1, x, y, h => by
    have h2 : twn t (twO (some x)) = some y := h
    unfold twO at h2
    by_cases c : (zq_inv x).length ≤ 60
    · simp only [if_pos c] at h2
      exact Nat.le_trans (inv_len x) (twn_len t _ y h2)
    · simp only [if_neg c] at h2
      rw [twn_none] at h2
      cases h2
theorem tw_big {c x : List Nat} (t : Nat) (h : 60 < c.length + x.length) : catO (some c) (twn t (some x)) = none := by
  cases e : twn t (some x) with
  | none => rfl
  | some y =>
    have := twn_len t x y e
    show (if (c ++ y).length ≤ 60 then _ else none) = none
    rw [if_neg (by rw [List.length_append]; omega)]
theorem tI_tw : ∀ (t : Nat) (c x : List Nat), c.length + x.length ≤ 60 → (tI c.length t x).map (fun y => c ++ y) = catO (some c) (twn t (some x))
  | 0, c, x, h => by
    show some (c ++ x) = if (c ++ x).length ≤ 60 then some (c ++ x) else none
    rw [if_pos (by rw [List.length_append]; omega)]
  | t + 1, c, x, h => by
    show (if c.length + (zq_inv x).length ≤ 60 then tI c.length t (zq_inv x) else none).map (fun y => c ++ y) = catO (some c) (twn t (twO (some x)))
    unfold twO
    by_cases d : c.length + (zq_inv x).length ≤ 60
    · rw [if_pos d]
      simp only [if_pos (show (zq_inv x).length ≤ 60 by omega)]
      exact tI_tw t c (zq_inv x) d
    · rw [if_neg d]
      by_cases e : (zq_inv x).length ≤ 60
      · simp only [if_pos e]
        rw [tw_big t (by omega)]
        rfl
      · simp only [if_neg e]
        rw [twn_none]
        rfl
theorem rpl_len (l : List Nat) : ∀ t, (rpl t l).length = l.length * t
  | 0 => rfl
  | t + 1 => by
    show (rpl t l ++ l).length = _
    rw [List.length_append, rpl_len l t, Nat.mul_add, Nat.mul_one]
/-- one item's gates come, turned so often, to what stands: or no room -/
def tC (c : List Nat) (t : Nat) (x : List Nat) : Option (List Nat) := if c.length + x.length ≤ 60 then (tI c.length t x).map (fun y => c ++ y) else none
theorem tC_tw (c : List Nat) (t : Nat) (x : List Nat) : tC c t x = catO (some c) (twn t (some x)) := by
  unfold tC
  by_cases h : c.length + x.length ≤ 60
  · rw [if_pos h, tI_tw t c x h]
  · rw [if_neg h, tw_big t (by omega)]
def rrd (B : List Nat) : Nat → Nat → List (List Nat × Nat) → List Nat → Nat → Option (List Nat)
  | 0, _, _, c, _ => some c
  | d + 1, i, lv, c, t =>
    if glt (hb B i) < 7 then (tC c t [glt (hb B i)]).bind (fun c2 => rrd B d (i + 1) lv c2 0)
    else if hb B i = 126 then rrd B d (i + 1) lv c (t + 1)
    else if hb B i = 40 then rrd B d (i + 1) ((c, t) :: lv) [] 0
    else if hb B i = 41 then (match lv with
      | [] => none
      | (c0, t0) :: lv2 => (tC c0 t0 (rpl (fig B (i + 1)) c)).bind (fun c2 => rrd B d (i + 1) lv2 c2 0))
    else rrd B d (i + 1) lv c t
def RR (B : List Nat) (i : Nat) (lv : List (List Nat × Nat)) (c : List Nat) (t : Nat) : Option (List Nat) := rrd B (B.length - i) i lv c t
theorem RR_lt {B : List Nat} {i : Nat} {lv : List (List Nat × Nat)} {c : List Nat} {t : Nat} (h : i < B.length) : RR B i lv c t = (if glt (hb B i) < 7 then (tC c t [glt (hb B i)]).bind (fun c2 => RR B (i + 1) lv c2 0)
    else if hb B i = 126 then RR B (i + 1) lv c (t + 1)
    else if hb B i = 40 then RR B (i + 1) ((c, t) :: lv) [] 0
    else if hb B i = 41 then (match lv with
      | [] => none
      | (c0, t0) :: lv2 => (tC c0 t0 (rpl (fig B (i + 1)) c)).bind (fun c2 => RR B (i + 1) lv2 c2 0))
    else RR B (i + 1) lv c t) := by
  unfold RR
  rw [show B.length - i = (B.length - (i + 1)) + 1 by omega]
  rfl
theorem RR_end {B : List Nat} {lv : List (List Nat × Nat)} {c : List Nat} {t : Nat} : RR B B.length lv c t = some c := by
  unfold RR
  rw [Nat.sub_self]
  rfl
def RI (B : List Nat) (ri : Nat → Nat → PR) (n : Nat) : Prop := ∀ p o lv c t, o ≤ 4 → 2 * (B.length - p) + 1 ≤ n → bgn B p o = true → (ri p o).1 = true → RR B p lv c t = (catO (some c) (twn t (ri p o).2.2)).bind (fun c2 => RR B (ri p o).2.1 lv c2 0)
def RS (B : List Nat) (rs : Nat → Nat → PR) (n : Nat) : Prop := ∀ p o lv, o ≤ 4 → p ≤ B.length → 2 * (B.length - p) + 2 ≤ n → (rs p o).1 = true → RR B p lv [] 0 = (rs p o).2.2.bind (fun c2 => RR B (rs p o).2.1 lv c2 0)
theorem pLp_none {B : List Nat} {ri : Nat → Nat → PR} {o : Nat} : ∀ m p, (pLp B ri o m p none).2.2 = none
  | 0, _ => rfl
  | m + 1, p => by
    unfold pLp
    by_cases c : bgn B p o = true
    · rw [if_pos c]
      by_cases d : (ri p o).1 = true
      · rw [if_pos d]
        exact pLp_none m _
      · rw [if_neg d]
    · rw [if_neg c]
theorem R_loop {B : List Nat} {ri : Nat → Nat → PR} {n o : Nat} {lv : List (List Nat × Nat)} (ho : o ≤ 4) (hF : FI B ri n) (hI : RI B ri n) : ∀ (m p : Nat) (c : List Nat), p ≤ B.length → 2 * (B.length - p) + 1 ≤ n → (pLp B ri o m p (some c)).1 = true → RR B p lv c 0 = (pLp B ri o m p (some c)).2.2.bind (fun c2 => RR B (pLp B ri o m p (some c)).2.1 lv c2 0) := by
  intro m
  induction m with
  | zero => intro p c hp hn h; cases h
  | succ m ih =>
    intro p c hp hn h
    unfold pLp at h ⊢
    by_cases b : bgn B p o = true
    · rw [if_pos b] at h ⊢
      by_cases d : (ri p o).1 = true
      · rw [if_pos d] at h ⊢
        obtain ⟨-, j2, j3, -⟩ := (hF p o true ho hn b).1 d
        rw [hI p o lv c 0 ho hn b d]
        show (catO (some c) (ri p o).2.2).bind _ = _
        cases e : catO (some c) (ri p o).2.2 with
        | none =>
          rw [pLp_none]
          rfl
        | some c2 =>
          rw [e] at h
          show RR B (ri p o).2.1 lv c2 0 = _
          exact ih (ri p o).2.1 c2 j3 (by omega) h
      · rw [if_neg d] at h
        cases h
    · rw [if_neg b] at h ⊢
      rfl
theorem R_items {B : List Nat} {ri : Nat → Nat → PR} {n : Nat} (hF : FI B ri n) (hI : RI B ri n) : RS B (itemsF B ri) (n + 1) := by
  intro p o lv ho hp hn h
  unfold itemsF at h ⊢
  by_cases c : bgn B p o = true
  · rw [if_pos c] at h ⊢
    exact R_loop ho hF hI 81 p [] hp (by omega) h
  · rw [if_neg c] at h
    cases h
theorem bind_none {f : List Nat → Option (List Nat)} : (none : Option (List Nat)).bind f = none := rfl
theorem R_item {B : List Nat} {ri rs : Nat → Nat → PR} {n : Nat} (hFI : FI B ri n) (hFS : FS B rs n) (hI : RI B ri n) (hS : RS B rs n) : RI B (itemF B ri rs) (n + 1) := by
  intro p o lv c t ho hn hbg h
  have hp := bgn_lt hbg
  unfold itemF at h ⊢
  by_cases c1 : glt (hb B p) < 7
  · rw [if_pos c1, RR_lt hp, if_pos c1, tC_tw]
  · rw [if_neg c1] at h ⊢
    by_cases c2 : hb B p = 126
    · rw [if_pos c2] at h ⊢
      by_cases c3 : bgn B (p + 1) o = true
      · rw [if_pos c3] at h ⊢
        by_cases d : (ri (p + 1) o).1 = true
        · rw [if_pos d, RR_lt hp, if_neg c1, if_pos c2, hI (p + 1) o lv c (t + 1) ho (by omega) c3 d]
          rfl
        · rw [if_neg d] at h
          cases h
      · rw [if_neg c3] at h
        cases h
    · rw [if_neg c2] at h ⊢
      obtain ⟨b1, b2⟩ := bgn_3 hbg c1 c2
      by_cases d : (rs (p + 1) (o + 1)).1 = true
      · rw [if_pos d] at h ⊢
        obtain ⟨-, j2, j3, j4, j5⟩ := (hFS (p + 1) (o + 1) (by omega) (by omega) (by omega) (fun _ => by rw [show p + 1 - 1 = p by omega]; omega)).1 d
        have hS1 := hS (p + 1) (o + 1) ((c, t) :: lv) (by omega) (by omega) (by omega) d
        rw [RR_lt hp, if_neg c1, if_neg c2, if_pos b1, hS1]
        generalize (rs (p + 1) (o + 1)).2.1 = q at h j2 j3 j4 j5 ⊢
        by_cases e : hb B q = 41
        · rw [if_pos e]
          have hq := hb_lt (B := B) (p := q) (by omega)
          obtain ⟨g1, g2, -⟩ := bgn_n j5
          cases ev : (rs (p + 1) (o + 1)).2.2 with
          | none =>
            show none = (catO (some c) (twn t none)).bind _
            rw [twn_none]
            rfl
          | some a =>
            show RR B q ((c, t) :: lv) a 0 = _
            rw [RR_lt hq, if_neg g1, if_neg g2, if_neg (by omega), if_pos e]
            show (tC c t (rpl (fig B (q + 1)) a)).bind (fun c2 => RR B (q + 1) lv c2 0) = (catO (some c) (twn t (rpO (fig B (q + 1)) (some a)))).bind (fun c2 => RR B (afd B (q + 1)) lv c2 0)
            have f3 : ∀ c2, RR B (q + 1) lv c2 0 = RR B (afd B (q + 1)) lv c2 0 := fun c2 => by
              unfold afd
              split
              · rename_i z
                have hq1 := hb_lt (B := B) (p := q + 1) (by omega)
                have n1 : ¬ glt (hb B (q + 1)) < 7 := fun w => (glt_not w).2.2.2.1 z
                rw [RR_lt hq1, if_neg n1, if_neg (by omega), if_neg (by omega), if_neg (by omega)]
              · rfl
            have f4 : tC c t (rpl (fig B (q + 1)) a) = catO (some c) (twn t (rpO (fig B (q + 1)) (some a))) := by
              rw [tC_tw]
              unfold rpO
              by_cases z : a.length * fig B (q + 1) ≤ 60
              · simp only [if_pos z]
              · simp only [if_neg z]
                rw [twn_none, tw_big t (by rw [rpl_len]; omega)]
                rfl
            rw [f4]
            congr 1
            funext c2
            exact f3 c2
        · rw [if_neg e] at h
          cases h
      · rw [if_neg d] at h
        cases h
theorem R_all {B : List Nat} (h80 : B.length ≤ 80) : ∀ n, RI B (pIt B n).1 n ∧ RS B (pIt B n).2 n
  | 0 => ⟨fun p o lv c t ho hn hbg => by omega, fun p o lv ho hp hn => by omega⟩
  | n + 1 => ⟨R_item (F_all h80 n).1 (F_all h80 n).2 (R_all h80 n).1 (R_all h80 n).2, R_items (F_all h80 n).1 (R_all h80 n).1⟩
theorem RR_top {B : List Nat} (h80 : B.length ≤ 80) (h1 : (pT B).1 = true) (h2 : (pT B).2.1 = B.length) : RR B 0 [] [] 0 = (pT B).2.2 := by
  have k := (R_all h80 200).2 0 0 [] (by omega) (by omega) (by omega) h1
  have e : (pIt B 200).2 0 0 = pT B := rfl
  rw [e, h2] at k
  rw [k]
  cases (pT B).2.2 with
  | none => rfl
  | some c => exact RR_end
