/-! The nine numbers: gates ahead. -/
def upV (V : Nat → Int × Int) : Nat → Int × Int := fun k => (2 * (V k).2, (V k).1)
def upn : Nat → (Nat → Int × Int) → Nat → Int × Int
  | 0, V => V
  | n + 1, V => upV (upn n V)
def e9 (V W : Nat → Int × Int) : Prop := ∀ k, k < 9 → V k = W k
theorem e9.tr {U V W : Nat → Int × Int} (h : e9 U V) (k : e9 V W) : e9 U W := fun i hi => (h i hi).trans (k i hi)
theorem e9.sy {V W : Nat → Int × Int} (h : e9 V W) : e9 W V := fun i hi => (h i hi).symm
theorem e9.up {V W : Nat → Int × Int} (h : e9 V W) : e9 (upV V) (upV W) := fun i hi => by unfold upV; rw [h i hi]
theorem e9.upn {V W : Nat → Int × Int} (h : e9 V W) : ∀ n, e9 (upn n V) (upn n W)
  | 0 => h
  | n + 1 => (e9.upn h n).up
theorem che_upV (V : Nat → Int × Int) : che (upV V) 9 = true := (che_iff _ 9).mpr (fun k _ => by show (2 * (V k).2) % 2 = 0; omega)
theorem chd_upV (V : Nat → Int × Int) : chd (upV V) = V := by
  funext k
  show ((V k).1, (2 * (V k).2) / 2) = V k
  rw [show (2 * (V k).2) / 2 = (V k).2 by omega]
theorem chl_up1 (f : Nat) (V : Nat → Int × Int) : chl (f + 1) (upV V) = chl f V := by
  show (if che (upV V) 9 = true then chl f (chd (upV V)) else _) = _
  rw [if_pos (che_upV V), chd_upV]
theorem chl_upn (f : Nat) (V : Nat → Int × Int) : ∀ n, chl (f + n) (upn n V) = chl f V
  | 0 => rfl
  | n + 1 => by
    show chl (f + n + 1) (upV (upn n V)) = _
    rw [chl_up1, chl_upn f V n]
theorem che_cg {V W : Nat → Int × Int} (h : e9 V W) : che V 9 = che W 9 := by
  have key : ∀ {V W : Nat → Int × Int}, e9 V W → che V 9 = true → che W 9 = true := fun h q => (che_iff _ 9).mpr (fun k hk => by rw [← h k hk]; exact (che_iff _ 9).mp q k hk)
  by_cases c : che V 9 = true
  · rw [c, key h c]
  · by_cases d : che W 9 = true
    · exact absurd (key h.sy d) c
    · rw [Bool.not_eq_true] at c d
      rw [c, d]
theorem chl_cg : ∀ (f : Nat) {V W : Nat → Int × Int}, e9 V W → (chl f V).2 = (chl f W).2 ∧ e9 (chl f V).1 (chl f W).1
  | 0, _, _, h => ⟨rfl, h⟩
  | f + 1, V, W, h => by
    unfold chl
    rw [che_cg h]
    by_cases c : che W 9 = true
    · rw [if_pos c, if_pos c]
      exact chl_cg f (fun k hk => by unfold chd; rw [h k hk])
    · rw [if_neg c, if_neg c]
      exact ⟨rfl, h⟩
theorem upn_in (n : Nat) (V : Nat → Int × Int) : upn n (upV V) = upV (upn n V) := by
  induction n with
  | zero => rfl
  | succ n ih =>
    show upV (upn n (upV V)) = _
    rw [ih]
    rfl
theorem chl_un : ∀ (f : Nat) (V : Nat → Int × Int), ∃ n, e9 V (upn n (chl f V).1) ∧ (chl f V).2 + n = f
  | 0, V => ⟨0, fun _ _ => rfl, rfl⟩
  | f + 1, V => by
    unfold chl
    by_cases c : che V 9 = true
    · rw [if_pos c]
      obtain ⟨n, h1, h2⟩ := chl_un f (chd V)
      refine ⟨n + 1, fun k hk => ?_, by omega⟩
      have ev := (che_iff V 9).mp c k hk
      show V k = upV (upn n (chl f (chd V)).1) k
      unfold upV
      rw [← h1 k hk]
      show V k = (2 * ((V k).1 / 2), (V k).2)
      rw [show 2 * ((V k).1 / 2) = (V k).1 by omega]
    · rw [if_neg c]
      exact ⟨0, fun _ _ => rfl, rfl⟩
theorem chl_uni {f g n : Nat} {V W : Nat → Int × Int} (h : e9 V (upn n W)) (hf : f = g + n) (hl : g = 0 ∨ che W 9 = false) : (chl f V).2 = g ∧ e9 (chl f V).1 W := by
  have a := chl_cg f h
  rw [hf, chl_upn] at a
  rw [hf]
  have b : chl g W = (W, g) := by
    cases g with
    | zero => rfl
    | succ g =>
      rcases hl with hl | hl
      · cases hl
      · show (if che W 9 = true then _ else _) = _
        rw [if_neg (by rw [hl]; decide)]
  rw [b] at a
  exact a
/-! brought lower or higher, a table has the same numbers -/
theorem zq_RR (z : zq_N) : zq_R (zq_R z) = (2 * z.1, 2 * z.2.1, 2 * z.2.2.1, 2 * z.2.2.2) := by
  obtain ⟨a, b, c, d⟩ := z
  simp only [zq_R, Prod.mk.injEq]
  omega
theorem zq_tr_R (A : zq_F) : zq_tr (zq_map zq_R A) = zq_R (zq_tr A) := by
  unfold zq_tr zq_map
  exact zq_R_add _ _
theorem zq_ctF_R (A : zq_F) : zq_ctF (zq_map zq_R A) = zq_map zq_R (zq_ctF A) := by
  simp only [zq_ctF, zq_map, zq_R_cj]
theorem chV_R (A : zq_F) : chV (zq_map zq_R A) = upV (upV (chV A)) := by
  funext k
  have e : chN (zq_map zq_R A) (k / 3) (k % 3) = zq_R (zq_R (chN A (k / 3) (k % 3))) := by
    unfold chN chS
    rw [zq_ctF_R, zq_pmF_R, zq_pmF_R, zq_pmF_R2, zq_pmF_R2, zq_pmF_R2, zq_tr_R, zq_tr_R]
  unfold upV
  show ((chN (zq_map zq_R A) (k / 3) (k % 3)).1, (chN (zq_map zq_R A) (k / 3) (k % 3)).2.1) = (2 * (chN A (k / 3) (k % 3)).1, 2 * (chN A (k / 3) (k % 3)).2.1)
  rw [e, zq_RR]
theorem chA_up1 (A : zq_T) : chA (zq_map zq_R A.1, A.2 + 1) = chA A := by
  unfold chA
  show chl (2 * (A.2 + 1) + 2) (chV (zq_map zq_R A.1)) = _
  rw [chV_R, show 2 * (A.2 + 1) + 2 = 2 * A.2 + 2 + 1 + 1 by omega, chl_up1, chl_up1]
theorem chA_up : ∀ (n : Nat) (A : zq_T), chA (zq_up n A) = chA A
  | 0, _ => rfl
  | n + 1, A => by
    show chA (zq_up n (zq_map zq_R A.1, A.2 + 1)) = _
    rw [chA_up n, chA_up1]
theorem chA_low (A : zq_T) : chA (zq_low A) = chA A := by
  obtain ⟨n, h, -⟩ := zq_low_up A
  conv => rhs; rw [h, chA_up]
theorem chS_G (G A : zq_F) (j : Nat) : chS (zq_pmF G A) j = zq_pmF G (zq_pmF (chS A j) (zq_ctF G)) := by
  unfold chS
  rw [zq_ctF_pm]
  simp only [zq_pmF_assoc]
/-- what a gate ahead does to one column -/
def cN (S : zq_F) (i : Nat) : Int × Int := ((zq_tr (zq_pmF (sg i) S)).1, (zq_tr (zq_pmF (sg i) S)).2.1)
theorem chV_cN (A : zq_F) (k : Nat) : chV A k = cN (chS A (k % 3)) (k / 3) := rfl
theorem zgF : (zq_gt 6).1 = ((1, 0, 0, 0), (0, 0, 0, 0), (0, 0, 0, 0), (0, 0, 0, -1)) ∧ (zq_gt 1).1 = ((1, 0, 0, 0), (0, 0, 0, 0), (0, 0, 0, 0), (0, 1, 0, 0)) ∧ (zq_gt 0).1 = ((1, 0, 0, 0), (1, 0, 0, 0), (1, 0, 0, 0), (-1, 0, 0, 0)) ∧ (zq_ct (zq_gt 2)).1 = ((1, 0, 0, 0), (0, 0, 0, 0), (0, 0, 0, 0), (0, 0, -1, 0)) := ⟨rfl, rfl, rfl, rfl⟩
set_option maxHeartbeats 4000000 in
theorem act_all {S : zq_F} (hh : zq_ctF S = S) (ht : zq_tr S = (0, 0, 0, 0)) :
    ((2 * (cN (zq_pmF (zq_gt 6).1 (zq_pmF S (zq_ctF (zq_gt 6).1))) 0).2 = (cN S 0).1 + (cN S 1).1 ∧ (cN (zq_pmF (zq_gt 6).1 (zq_pmF S (zq_ctF (zq_gt 6).1))) 0).1 = (cN S 0).2 + (cN S 1).2 ∧ 2 * (cN (zq_pmF (zq_gt 6).1 (zq_pmF S (zq_ctF (zq_gt 6).1))) 1).2 = (cN S 1).1 - (cN S 0).1 ∧ (cN (zq_pmF (zq_gt 6).1 (zq_pmF S (zq_ctF (zq_gt 6).1))) 1).1 = (cN S 1).2 - (cN S 0).2 ∧ cN (zq_pmF (zq_gt 6).1 (zq_pmF S (zq_ctF (zq_gt 6).1))) 2 = cN S 2))
    ∧ ((2 * (cN (zq_pmF (zq_gt 1).1 (zq_pmF S (zq_ctF (zq_gt 1).1))) 0).2 = (cN S 0).1 - (cN S 1).1 ∧ (cN (zq_pmF (zq_gt 1).1 (zq_pmF S (zq_ctF (zq_gt 1).1))) 0).1 = (cN S 0).2 - (cN S 1).2 ∧ 2 * (cN (zq_pmF (zq_gt 1).1 (zq_pmF S (zq_ctF (zq_gt 1).1))) 1).2 = (cN S 1).1 + (cN S 0).1 ∧ (cN (zq_pmF (zq_gt 1).1 (zq_pmF S (zq_ctF (zq_gt 1).1))) 1).1 = (cN S 1).2 + (cN S 0).2 ∧ cN (zq_pmF (zq_gt 1).1 (zq_pmF S (zq_ctF (zq_gt 1).1))) 2 = cN S 2))
    ∧ (cN (zq_pmF (zq_gt 0).1 (zq_pmF S (zq_ctF (zq_gt 0).1))) 0 = (2 * (cN S 2).1, 2 * (cN S 2).2) ∧ cN (zq_pmF (zq_gt 0).1 (zq_pmF S (zq_ctF (zq_gt 0).1))) 1 = (2 * -(cN S 1).1, 2 * -(cN S 1).2) ∧ cN (zq_pmF (zq_gt 0).1 (zq_pmF S (zq_ctF (zq_gt 0).1))) 2 = (2 * (cN S 0).1, 2 * (cN S 0).2))
    ∧ (cN (zq_pmF (zq_ct (zq_gt 2)).1 (zq_pmF S (zq_ctF (zq_ct (zq_gt 2)).1))) 0 = cN S 1 ∧ cN (zq_pmF (zq_ct (zq_gt 2)).1 (zq_pmF S (zq_ctF (zq_ct (zq_gt 2)).1))) 1 = (-(cN S 0).1, -(cN S 0).2) ∧ cN (zq_pmF (zq_ct (zq_gt 2)).1 (zq_pmF S (zq_ctF (zq_ct (zq_gt 2)).1))) 2 = cN S 2) := by
  obtain ⟨⟨a, b, c, d⟩, ⟨e, f, g, h⟩, ⟨i, j, k, l⟩, ⟨m, n, o, p⟩⟩ := S
  simp only [zq_ctF, zq_cj, zq_tr, zq_add, Prod.mk.injEq] at hh ht
  have q1 : d = -b := by omega
  have q2 : c = 0 := by omega
  have q3 : i = e := by omega
  have q4 : j = -h := by omega
  have q5 : k = -g := by omega
  have q6 : l = -f := by omega
  have q7 : m = -a := by omega
  have q8 : n = -b := by omega
  have q9 : o = 0 := by omega
  have q10 : p = b := by omega
  clear hh ht
  subst q1 q2 q3 q4 q5 q6 q7 q8 q9 q10
  obtain ⟨v0, v1, v2⟩ := sg_v
  obtain ⟨w6, w1, w0, w2⟩ := zgF
  simp only [w6, w1, w0, w2, v0, v1, v2, cN, zq_tr, zq_pmF, zq_mul, zq_add, zq_ctF, zq_cj, Prod.mk.injEq]
  refine ⟨⟨?_, ?_, ?_, ?_, ?_, ?_⟩, ⟨?_, ?_, ?_, ?_, ?_, ?_⟩, ⟨⟨?_, ?_⟩, ⟨?_, ?_⟩, ?_, ?_⟩, ⟨?_, ?_⟩, ⟨?_, ?_⟩, ?_, ?_⟩ <;> omega
