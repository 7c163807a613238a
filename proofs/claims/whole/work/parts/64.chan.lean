/-! Channels: the nine numbers. -/
def zq_tr (A : zq_F) : zq_N := zq_add A.1 A.2.2.2
def sg (i : Nat) : zq_F := if i = 0 then (zq_gt 3).1 else if i = 1 then zq_Y.1 else (zq_gt 4).1
def chS (A : zq_F) (j : Nat) : zq_F := zq_pmF (zq_pmF A (sg j)) (zq_ctF A)
def chN (A : zq_F) (i j : Nat) : zq_N := zq_tr (zq_pmF (sg i) (chS A j))
def chV (A : zq_F) : Nat → Int × Int := fun k => ((chN A (k / 3) (k % 3)).1, (chN A (k / 3) (k % 3)).2.1)
theorem zq_ctF_pm (A B : zq_F) : zq_ctF (zq_pmF A B) = zq_pmF (zq_ctF B) (zq_ctF A) := by
  simp only [zq_ctF, zq_pmF, zq_cj_add, zq_cj_mul]
theorem zq_ctF_ct (A : zq_F) : zq_ctF (zq_ctF A) = A := by
  simp only [zq_ctF, zq_cj_cj]
theorem sg_ct (j : Nat) : zq_ctF (sg j) = sg j := by
  unfold sg
  split
  · decide
  · split <;> decide
theorem chS_h (A : zq_F) (j : Nat) : zq_ctF (chS A j) = chS A j := by
  unfold chS
  rw [zq_ctF_pm, zq_ctF_pm, zq_ctF_ct, sg_ct, zq_pmF_assoc]
theorem zq_mul_comm (x y : zq_N) : zq_mul x y = zq_mul y x := by
  obtain ⟨a, b, c, d⟩ := x
  obtain ⟨e, f, g, h⟩ := y
  simp only [zq_mul, Prod.mk.injEq]
  refine ⟨?_, ?_, ?_, ?_⟩ <;> grind
theorem zq_tr_comm (A B : zq_F) : zq_tr (zq_pmF A B) = zq_tr (zq_pmF B A) := by
  simp only [zq_tr, zq_pmF]
  rw [zq_mul_comm A.1 B.1, zq_mul_comm A.2.1 B.2.2.1, zq_mul_comm A.2.2.1 B.2.1, zq_mul_comm A.2.2.2 B.2.2.2, zq_add4]
theorem chS_t {A : zq_T} (h : zq_ok A) (j : Nat) : zq_tr (chS A.1 j) = (0, 0, 0, 0) := by
  unfold chS
  rw [zq_tr_comm, ← zq_pmF_assoc, h.sq.2]
  unfold sg
  split
  · simp [zq_tr, zq_pmF, zq_mul, zq_add, zq_gt]
  · split
    · simp [zq_tr, zq_pmF, zq_mul, zq_add, zq_Y]
    · simp [zq_tr, zq_pmF, zq_mul, zq_add, zq_gt]
      exact Int.add_right_neg _
theorem chN_v {S : zq_F} (hh : zq_ctF S = S) (ht : zq_tr S = (0, 0, 0, 0)) : ((zq_tr (zq_pmF (sg 0) S)).1 = 2 * S.2.1.1 ∧ (zq_tr (zq_pmF (sg 0) S)).2.1 = S.2.1.2.1 - S.2.1.2.2.2) ∧ ((zq_tr (zq_pmF (sg 1) S)).1 = -2 * S.2.1.2.2.1 ∧ (zq_tr (zq_pmF (sg 1) S)).2.1 = -(S.2.1.2.1 + S.2.1.2.2.2)) ∧ (zq_tr (zq_pmF (sg 2) S)).1 = 2 * S.1.1 ∧ (zq_tr (zq_pmF (sg 2) S)).2.1 = 2 * S.1.2.1 := by
  obtain ⟨⟨a, b, c, d⟩, ⟨e, f, g, h⟩, ⟨i, j, k, l⟩, ⟨m, n, o, p⟩⟩ := S
  simp only [zq_ctF, zq_cj, zq_tr, zq_add, Prod.mk.injEq] at hh ht
  simp [sg, zq_tr, zq_pmF, zq_mul, zq_add, zq_gt, zq_Y]
  omega
theorem chN_ref (A : zq_F) (i j : Nat) : zq_tr (zq_pmF (zq_pmF (zq_pmF (sg i) A) (sg j)) (zq_ctF A)) = chN A i j := by
  unfold chN chS
  rw [zq_pmF_assoc (sg i), zq_pmF_assoc (sg i)]
/-! brought lower -/
def che (V : Nat → Int × Int) : Nat → Bool
  | 0 => true
  | n + 1 => che V n && decide ((V n).1 % 2 = 0)
def chd (V : Nat → Int × Int) : Nat → Int × Int := fun k => ((V k).2, (V k).1 / 2)
def chl : Nat → (Nat → Int × Int) → (Nat → Int × Int) × Nat
  | 0, V => (V, 0)
  | f + 1, V => if che V 9 = true then chl f (chd V) else (V, f + 1)
theorem che_iff (V : Nat → Int × Int) : ∀ n, che V n = true ↔ ∀ k, k < n → (V k).1 % 2 = 0
  | 0 => ⟨fun _ k hk => by omega, fun _ => rfl⟩
  | n + 1 => by
    show (che V n && decide ((V n).1 % 2 = 0)) = true ↔ _
    rw [Bool.and_eq_true, decide_eq_true_eq, che_iff V n]
    constructor
    · intro h k hk
      by_cases e : k = n
      · rw [e]; exact h.2
      · exact h.1 k (by omega)
    · intro h
      exact ⟨fun k hk => h k (by omega), h n (by omega)⟩
def chM (M : qv_Mem) (p q : Nat) (V : Nat → Int × Int) : Prop := ∀ k, k < 9 → M.2.1 p k = Int64.ofInt (V k).1 ∧ M.2.1 q k = Int64.ofInt (V k).2
def chb (V : Nat → Int × Int) : Prop := ∀ k, k < 9 → (-4611686018427387904 ≤ (V k).1 ∧ (V k).1 ≤ 4611686018427387904) ∧ (-4611686018427387904 ≤ (V k).2 ∧ (V k).2 ≤ 4611686018427387904)
theorem chb_d {V : Nat → Int × Int} (h : chb V) : chb (chd V) := by
  intro k hk
  obtain ⟨h1, h2⟩ := h k hk
  refine ⟨h2, ?_, ?_⟩
  · show _ ≤ (V k).1 / 2
    omega
  · show (V k).1 / 2 ≤ _
    omega
theorem chl_f : ∀ (f : Nat) (V : Nat → Int × Int), (chl f V).2 ≤ f
  | 0, _ => Nat.le_refl _
  | f + 1, V => by
    unfold chl
    split
    · exact Nat.le_succ_of_le (chl_f f _)
    · exact Nat.le_refl _
theorem zul_ne {M : qv_Mem} {p j a : Nat} {v : Int64} (h : a ≠ p) : (qv_upL M p j v).2.1 a = M.2.1 a := by
  funext i
  show (if a = p ∧ i = j then v else M.2.1 a i) = _
  rw [if_neg (fun q => h q.1)]
theorem zul_at (M : qv_Mem) (p j : Nat) (v : Int64) (i : Nat) : (qv_upL M p j v).2.1 p i = if i = j then v else M.2.1 p i := by
  show (if p = p ∧ i = j then v else M.2.1 p i) = _
  by_cases h : i = j
  · rw [if_pos ⟨rfl, h⟩, if_pos h]
  · rw [if_neg (fun q => h q.2), if_neg h]
/-- only longs of these cells -/
def zlo (M M1 : qv_Mem) (S : Nat → Prop) : Prop := M1.1 = M.1 ∧ M1.2.2 = M.2.2 ∧ ∀ a, ¬ S a → M1.2.1 a = M.2.1 a
theorem zlo.rf (M : qv_Mem) (S : Nat → Prop) : zlo M M S := ⟨rfl, rfl, fun _ _ => rfl⟩
theorem zlo.tr {M M1 M2 : qv_Mem} {S : Nat → Prop} (h : zlo M M1 S) (k : zlo M1 M2 S) : zlo M M2 S := ⟨k.1.trans h.1, k.2.1.trans h.2.1, fun a ha => (k.2.2 a ha).trans (h.2.2 a ha)⟩
theorem zlo_u {M : qv_Mem} {p j : Nat} {v : Int64} {S : Nat → Prop} (h : S p) : zlo M (qv_upL M p j v) S := ⟨rfl, rfl, fun a ha => zul_ne (fun q => ha (q ▸ h))⟩
theorem zlo.fr {M M1 : qv_Mem} {S : Nat → Prop} (h : zlo M M1 S) : zfr S M M1 := ⟨fun a _ => congrFun h.1 a, fun a ha => h.2.2 a ha, fun a _ => congrFun h.2.1 a⟩
/-- what half of a lowering has done -/
def chH (M : qv_Mem) (p q : Nat) (V : Nat → Int × Int) (i : Nat) : Prop := ∀ k, k < 9 → if k < i then M.2.1 p k = Int64.ofInt (chd V k).1 ∧ M.2.1 q k = Int64.ofInt (chd V k).2 else M.2.1 p k = Int64.ofInt (V k).1 ∧ M.2.1 q k = Int64.ofInt (V k).2
theorem chH_step {M : qv_Mem} {p q i : Nat} {V : Nat → Int × Int} (hpq : p ≠ q) (hi : i < 9) (hb : chb V) (he : che V 9 = true) (h : chH M p q V i) : chH (qv_upL (qv_upL M p i (M.2.1 q i)) q i (M.2.1 p i / 2)) p q V (i + 1) := by
  intro k hk
  have hp : (qv_upL (qv_upL M p i (M.2.1 q i)) q i (M.2.1 p i / 2)).2.1 p k = if k = i then M.2.1 q i else M.2.1 p k := by
    rw [zul_ne hpq, zul_at]
  have hq : (qv_upL (qv_upL M p i (M.2.1 q i)) q i (M.2.1 p i / 2)).2.1 q k = if k = i then M.2.1 p i / 2 else M.2.1 q k := by
    rw [zul_at, zul_ne (Ne.symm hpq)]
  rw [hp, hq]
  by_cases e : k = i
  · have hi' := h i hi
    rw [if_neg (by omega)] at hi'
    obtain ⟨b1, b2⟩ := hb i hi
    have ev := (che_iff V 9).mp he i hi
    rw [if_pos e, if_pos e, if_pos (by omega), hi'.1, hi'.2, e, ze_div2 (by omega) (by omega) ev]
    exact ⟨rfl, rfl⟩
  · have hk' := h k hk
    rw [if_neg e, if_neg e]
    by_cases e2 : k < i
    · rw [if_pos e2] at hk'
      rw [if_pos (by omega)]
      exact hk'
    · rw [if_neg e2] at hk'
      rw [if_neg (by omega)]
      exact hk'
theorem chH_0 {M : qv_Mem} {p q : Nat} {V : Nat → Int × Int} (h : chM M p q V) : chH M p q V 0 := fun k hk => by rw [if_neg (by omega)]; exact h k hk
theorem chH_9 {M : qv_Mem} {p q : Nat} {V : Nat → Int × Int} (h : chH M p q V 9) : chM M p q (chd V) := fun k hk => by have := h k hk; rw [if_pos hk] at this; exact this
