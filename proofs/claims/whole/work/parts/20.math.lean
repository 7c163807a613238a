/-! THE MATHEMATICS of tables: numbers (a, b, c, d), tables of four and an E, products, lowest form. -/
abbrev zq_N : Type := Int × Int × Int × Int
abbrev zq_F : Type := zq_N × zq_N × zq_N × zq_N
abbrev zq_T : Type := zq_F × Nat
def zq_add (x y : zq_N) : zq_N := (x.1 + y.1, x.2.1 + y.2.1, x.2.2.1 + y.2.2.1, x.2.2.2 + y.2.2.2)
def zq_mul (x y : zq_N) : zq_N := (x.1 * y.1 - x.2.1 * y.2.2.2 - x.2.2.1 * y.2.2.1 - x.2.2.2 * y.2.1, x.1 * y.2.1 + x.2.1 * y.1 - x.2.2.1 * y.2.2.2 - x.2.2.2 * y.2.2.1, x.1 * y.2.2.1 + x.2.1 * y.2.1 + x.2.2.1 * y.1 - x.2.2.2 * y.2.2.2, x.1 * y.2.2.2 + x.2.1 * y.2.2.1 + x.2.2.1 * y.2.1 + x.2.2.2 * y.1)
def zq_cj (x : zq_N) : zq_N := (x.1, -x.2.2.2, -x.2.2.1, -x.2.1)
def zq_R (x : zq_N) : zq_N := (x.2.1 - x.2.2.2, x.1 + x.2.2.1, x.2.1 + x.2.2.2, x.2.2.1 - x.1)
def zq_dv (x : zq_N) : zq_N := ((x.2.1 - x.2.2.2) / 2, (x.1 + x.2.2.1) / 2, (x.2.1 + x.2.2.2) / 2, (x.2.2.1 - x.1) / 2)
def zq_ev (x : zq_N) : Bool := decide ((x.1 + x.2.2.1) % 2 = 0) && decide ((x.2.1 + x.2.2.2) % 2 = 0)
def zq_map (f : zq_N → zq_N) (A : zq_F) : zq_F := (f A.1, f A.2.1, f A.2.2.1, f A.2.2.2)
def zq_ov (A : zq_F) : Bool := zq_ev A.1 && (zq_ev A.2.1 && (zq_ev A.2.2.1 && zq_ev A.2.2.2))
def zq_pmF (A B : zq_F) : zq_F := (zq_add (zq_mul A.1 B.1) (zq_mul A.2.1 B.2.2.1), zq_add (zq_mul A.1 B.2.1) (zq_mul A.2.1 B.2.2.2), zq_add (zq_mul A.2.2.1 B.1) (zq_mul A.2.2.2 B.2.2.1), zq_add (zq_mul A.2.2.1 B.2.1) (zq_mul A.2.2.2 B.2.2.2))
def zq_ctF (A : zq_F) : zq_F := (zq_cj A.1, zq_cj A.2.2.1, zq_cj A.2.1, zq_cj A.2.2.2)
def zq_pm (A B : zq_T) : zq_T := (zq_pmF A.1 B.1, A.2 + B.2)
def zq_ct (A : zq_T) : zq_T := (zq_ctF A.1, A.2)
def zq_lowF : Nat → zq_F → zq_T
  | 0, A => (A, 0)
  | e + 1, A => if zq_ov A = true then zq_lowF e (zq_map zq_dv A) else (A, e + 1)
def zq_low (A : zq_T) : zq_T := zq_lowF A.2 A.1
def zq_lm (A B : zq_T) : zq_T := zq_low (zq_pm A B)
def zq_up : Nat → zq_T → zq_T
  | 0, A => A
  | n + 1, A => zq_up n (zq_map zq_R A.1, A.2 + 1)
def zq_one : zq_T := (((1, 0, 0, 0), (0, 0, 0, 0), (0, 0, 0, 0), (1, 0, 0, 0)), 0)
def zq_gt (g : Nat) : zq_T :=
  if g = 0 then (((1, 0, 0, 0), (1, 0, 0, 0), (1, 0, 0, 0), (-1, 0, 0, 0)), 1)
  else if g = 1 then (((1, 0, 0, 0), (0, 0, 0, 0), (0, 0, 0, 0), (0, 1, 0, 0)), 0)
  else if g = 2 then (((1, 0, 0, 0), (0, 0, 0, 0), (0, 0, 0, 0), (0, 0, 1, 0)), 0)
  else if g = 3 then (((0, 0, 0, 0), (1, 0, 0, 0), (1, 0, 0, 0), (0, 0, 0, 0)), 0)
  else if g = 4 then (((1, 0, 0, 0), (0, 0, 0, 0), (0, 0, 0, 0), (-1, 0, 0, 0)), 0)
  else if g = 5 then (((0, 1, 0, 0), (0, 0, 0, 0), (0, 0, 0, 0), (0, 1, 0, 0)), 0)
  else (((1, 0, 0, 0), (0, 0, 0, 0), (0, 0, 0, 0), (0, 0, 0, -1)), 0)
theorem zq_dec {A B : zq_T} (h : (decide (A.1 = B.1) && decide (A.2 = B.2)) = true) : A = B := by
  simp only [Bool.and_eq_true, decide_eq_true_eq] at h
  exact Prod.ext h.1 h.2
theorem zq_mul_assoc (x y z : zq_N) : zq_mul (zq_mul x y) z = zq_mul x (zq_mul y z) := by
  obtain ⟨a, b, c, d⟩ := x
  obtain ⟨e, f, g, h⟩ := y
  obtain ⟨i, j, k, l⟩ := z
  simp only [zq_mul, Prod.mk.injEq]
  refine ⟨?_, ?_, ?_, ?_⟩ <;> grind
theorem zq_mul_add (x y z : zq_N) : zq_mul x (zq_add y z) = zq_add (zq_mul x y) (zq_mul x z) := by
  obtain ⟨a, b, c, d⟩ := x
  obtain ⟨e, f, g, h⟩ := y
  obtain ⟨i, j, k, l⟩ := z
  simp only [zq_mul, zq_add, Prod.mk.injEq]
  refine ⟨?_, ?_, ?_, ?_⟩ <;> grind
theorem zq_add_mul (x y z : zq_N) : zq_mul (zq_add x y) z = zq_add (zq_mul x z) (zq_mul y z) := by
  obtain ⟨a, b, c, d⟩ := x
  obtain ⟨e, f, g, h⟩ := y
  obtain ⟨i, j, k, l⟩ := z
  simp only [zq_mul, zq_add, Prod.mk.injEq]
  refine ⟨?_, ?_, ?_, ?_⟩ <;> grind
theorem zq_add4 (a b c d : zq_N) : zq_add (zq_add a b) (zq_add c d) = zq_add (zq_add a c) (zq_add b d) := by
  simp only [zq_add, Prod.mk.injEq]
  refine ⟨?_, ?_, ?_, ?_⟩ <;> omega
theorem zq_pmF_assoc (A B C : zq_F) : zq_pmF (zq_pmF A B) C = zq_pmF A (zq_pmF B C) := by
  simp only [zq_pmF, Prod.mk.injEq, zq_mul_add, zq_add_mul, zq_mul_assoc]
  exact ⟨zq_add4 _ _ _ _, zq_add4 _ _ _ _, zq_add4 _ _ _ _, zq_add4 _ _ _ _⟩
theorem zq_pm_assoc (A B C : zq_T) : zq_pm (zq_pm A B) C = zq_pm A (zq_pm B C) := by
  simp only [zq_pm, zq_pmF_assoc, Nat.add_assoc]
theorem zq_R_mul (x y : zq_N) : zq_mul (zq_R x) y = zq_R (zq_mul x y) := by
  obtain ⟨a, b, c, d⟩ := x
  obtain ⟨e, f, g, h⟩ := y
  simp only [zq_mul, zq_R, Prod.mk.injEq]
  refine ⟨?_, ?_, ?_, ?_⟩ <;> grind
theorem zq_mul_R (x y : zq_N) : zq_mul x (zq_R y) = zq_R (zq_mul x y) := by
  obtain ⟨a, b, c, d⟩ := x
  obtain ⟨e, f, g, h⟩ := y
  simp only [zq_mul, zq_R, Prod.mk.injEq]
  refine ⟨?_, ?_, ?_, ?_⟩ <;> grind
theorem zq_R_add (x y : zq_N) : zq_add (zq_R x) (zq_R y) = zq_R (zq_add x y) := by
  simp only [zq_add, zq_R, Prod.mk.injEq]
  refine ⟨?_, ?_, ?_, ?_⟩ <;> omega
theorem zq_R_cj (x : zq_N) : zq_cj (zq_R x) = zq_R (zq_cj x) := by
  obtain ⟨a, b, c, d⟩ := x
  simp only [zq_cj, zq_R, Prod.mk.injEq]
  refine ⟨?_, ?_, ?_, ?_⟩ <;> omega
theorem zq_cj_mul (x y : zq_N) : zq_cj (zq_mul x y) = zq_mul (zq_cj y) (zq_cj x) := by
  obtain ⟨a, b, c, d⟩ := x
  obtain ⟨e, f, g, h⟩ := y
  simp only [zq_mul, zq_cj, Prod.mk.injEq]
  refine ⟨?_, ?_, ?_, ?_⟩ <;> grind
theorem zq_cj_add (x y : zq_N) : zq_cj (zq_add x y) = zq_add (zq_cj x) (zq_cj y) := by
  obtain ⟨a, b, c, d⟩ := x
  obtain ⟨e, f, g, h⟩ := y
  simp only [zq_add, zq_cj, Prod.mk.injEq]
  refine ⟨?_, ?_, ?_, ?_⟩ <;> first | trivial | omega
theorem zq_cj_cj (x : zq_N) : zq_cj (zq_cj x) = x := by
  obtain ⟨a, b, c, d⟩ := x
  simp [zq_cj]
theorem zq_dv_R (x : zq_N) : zq_dv (zq_R x) = x := by
  obtain ⟨a, b, c, d⟩ := x
  simp only [zq_dv, zq_R, Prod.mk.injEq]
  refine ⟨?_, ?_, ?_, ?_⟩ <;> omega
theorem zq_ev_R (x : zq_N) : zq_ev (zq_R x) = true := by
  obtain ⟨a, b, c, d⟩ := x
  have h1 : (b - d + (b + d)) % 2 = 0 := by omega
  have h2 : (a + c + (c - a)) % 2 = 0 := by omega
  simp [zq_ev, zq_R, h1, h2]
theorem zq_R_dv {x : zq_N} (h : zq_ev x = true) : zq_R (zq_dv x) = x := by
  obtain ⟨a, b, c, d⟩ := x
  simp only [zq_ev, Bool.and_eq_true, decide_eq_true_eq] at h
  simp only [zq_dv, zq_R, Prod.mk.injEq]
  refine ⟨?_, ?_, ?_, ?_⟩ <;> omega
theorem zq_ev_cj (x : zq_N) : zq_ev (zq_cj x) = zq_ev x := by
  simp only [zq_ev, zq_cj]
  congr 1 <;> (apply decide_eq_decide.mpr; omega)
theorem zq_dv_cj {x : zq_N} (h : zq_ev x = true) : zq_cj (zq_dv x) = zq_dv (zq_cj x) := by
  have h1 := zq_R_dv h
  have h2 := zq_R_cj (zq_dv x)
  rw [h1] at h2
  rw [h2, zq_dv_R]
/-! up and low -/
theorem zq_up_low : ∀ (n : Nat) (A : zq_T), zq_low (zq_up n A) = zq_low A
  | 0, _ => rfl
  | n + 1, A => by
    show zq_low (zq_up n (zq_map zq_R A.1, A.2 + 1)) = _
    rw [zq_up_low n]
    show (if zq_ov (zq_map zq_R A.1) = true then zq_lowF A.2 (zq_map zq_dv (zq_map zq_R A.1)) else _) = _
    rw [if_pos (by simp [zq_ov, zq_map, zq_ev_R])]
    simp only [zq_map, zq_dv_R]
    rfl
theorem zq_up_e : ∀ (n : Nat) (A : zq_T), (zq_up n A).2 = A.2 + n
  | 0, _ => rfl
  | n + 1, A => by
    show (zq_up n (zq_map zq_R A.1, A.2 + 1)).2 = _
    rw [zq_up_e n]
    show A.2 + 1 + n = A.2 + (n + 1)
    omega
theorem zq_up_one : ∀ (n : Nat) (A : zq_T), zq_up n (zq_map zq_R A.1, A.2 + 1) = (zq_map zq_R (zq_up n A).1, (zq_up n A).2 + 1)
  | 0, _ => rfl
  | n + 1, A => by
    show zq_up n (zq_map zq_R (zq_map zq_R A.1), A.2 + 1 + 1) = (zq_map zq_R (zq_up n (zq_map zq_R A.1, A.2 + 1)).1, (zq_up n (zq_map zq_R A.1, A.2 + 1)).2 + 1)
    exact zq_up_one n (zq_map zq_R A.1, A.2 + 1)
theorem zq_lowF_up : ∀ (e : Nat) (A : zq_F), ∃ n, (A, e) = zq_up n (zq_lowF e A) ∧ (zq_lowF e A).2 + n = e
  | 0, A => ⟨0, rfl, rfl⟩
  | e + 1, A => by
    unfold zq_lowF
    by_cases h : zq_ov A = true
    · rw [if_pos h]
      obtain ⟨n, h1, h2⟩ := zq_lowF_up e (zq_map zq_dv A)
      refine ⟨n + 1, ?_, by omega⟩
      show _ = zq_up n (zq_map zq_R (zq_lowF e (zq_map zq_dv A)).1, (zq_lowF e (zq_map zq_dv A)).2 + 1)
      rw [zq_up_one, ← h1]
      simp only [zq_ov, Bool.and_eq_true] at h
      obtain ⟨e1, e2, e3, e4⟩ := h
      simp only [zq_map, zq_R_dv e1, zq_R_dv e2, zq_R_dv e3, zq_R_dv e4]
    · rw [if_neg h]
      exact ⟨0, rfl, rfl⟩
theorem zq_low_up (A : zq_T) : ∃ n, A = zq_up n (zq_low A) ∧ (zq_low A).2 + n = A.2 := zq_lowF_up A.2 A.1
theorem zq_pmF_R (A B : zq_F) : zq_pmF (zq_map zq_R A) B = zq_map zq_R (zq_pmF A B) := by
  simp only [zq_pmF, zq_map, zq_R_mul, zq_R_add]
theorem zq_pmF_R2 (A B : zq_F) : zq_pmF A (zq_map zq_R B) = zq_map zq_R (zq_pmF A B) := by
  simp only [zq_pmF, zq_map, zq_mul_R, zq_R_add]
theorem zq_pm_up : ∀ (n : Nat) (A B : zq_T), zq_pm (zq_up n A) B = zq_up n (zq_pm A B)
  | 0, _, _ => rfl
  | n + 1, A, B => by
    show zq_pm (zq_up n (zq_map zq_R A.1, A.2 + 1)) B = zq_up n (zq_map zq_R (zq_pm A B).1, (zq_pm A B).2 + 1)
    rw [zq_pm_up n]
    congr 1
    simp only [zq_pm, zq_pmF_R]
    congr 1
    omega
theorem zq_pm_up2 : ∀ (n : Nat) (A B : zq_T), zq_pm A (zq_up n B) = zq_up n (zq_pm A B)
  | 0, _, _ => rfl
  | n + 1, A, B => by
    show zq_pm A (zq_up n (zq_map zq_R B.1, B.2 + 1)) = zq_up n (zq_map zq_R (zq_pm A B).1, (zq_pm A B).2 + 1)
    rw [zq_pm_up2 n]
    congr 1
    simp only [zq_pm, zq_pmF_R2]
    congr 1
theorem zq_lm_l (A B : zq_T) : zq_lm (zq_low A) B = zq_lm A B := by
  obtain ⟨n, h, -⟩ := zq_low_up A
  unfold zq_lm
  conv => rhs; rw [h, zq_pm_up, zq_up_low]
theorem zq_lm_r (A B : zq_T) : zq_lm A (zq_low B) = zq_lm A B := by
  obtain ⟨n, h, -⟩ := zq_low_up B
  unfold zq_lm
  conv => rhs; rw [h, zq_pm_up2, zq_up_low]
theorem zq_lm_assoc (A B C : zq_T) : zq_lm (zq_lm A B) C = zq_lm A (zq_lm B C) := by
  show zq_lm (zq_low (zq_pm A B)) C = zq_lm A (zq_low (zq_pm B C))
  rw [zq_lm_l, zq_lm_r]
  unfold zq_lm
  rw [zq_pm_assoc]
theorem zq_one_pm (A : zq_T) : zq_pm zq_one A = A := by
  obtain ⟨⟨⟨a, b, c, d⟩, ⟨e, f, g, h⟩, ⟨i, j, k, l⟩, ⟨m, n, o, p⟩⟩, q⟩ := A
  simp [zq_pm, zq_pmF, zq_one, zq_mul, zq_add]
theorem zq_pm_one (A : zq_T) : zq_pm A zq_one = A := by
  obtain ⟨⟨⟨a, b, c, d⟩, ⟨e, f, g, h⟩, ⟨i, j, k, l⟩, ⟨m, n, o, p⟩⟩, q⟩ := A
  simp [zq_pm, zq_pmF, zq_one, zq_mul, zq_add]
/-- lowest form -/
def zq_ls (A : zq_T) : Prop := A.2 = 0 ∨ zq_ov A.1 = false
theorem zq_lowF_ls : ∀ (e : Nat) (A : zq_F), zq_ls (zq_lowF e A)
  | 0, A => Or.inl rfl
  | e + 1, A => by
    unfold zq_lowF
    by_cases h : zq_ov A = true
    · rw [if_pos h]; exact zq_lowF_ls e _
    · rw [if_neg h]; exact Or.inr (by simpa using h)
theorem zq_low_ls (A : zq_T) : zq_ls (zq_low A) := zq_lowF_ls A.2 A.1
theorem zq_ls_low {A : zq_T} (h : zq_ls A) : zq_low A = A := by
  obtain ⟨B, e⟩ := A
  cases e with
  | zero => rfl
  | succ e =>
    rcases h with h | h
    · cases h
    · show (if zq_ov B = true then _ else _) = _
      rw [if_neg (by rw [h]; decide)]
theorem zq_one_lm {A : zq_T} (h : zq_ls A) : zq_lm zq_one A = A := by
  unfold zq_lm
  rw [zq_one_pm, zq_ls_low h]
theorem zq_lm_one {A : zq_T} (h : zq_ls A) : zq_lm A zq_one = A := by
  unfold zq_lm
  rw [zq_pm_one, zq_ls_low h]
theorem zq_lm_ls (A B : zq_T) : zq_ls (zq_lm A B) := zq_low_ls _
/-! turned -/
theorem zq_ct_pm (A B : zq_T) : zq_ct (zq_pm A B) = zq_pm (zq_ct B) (zq_ct A) := by
  simp only [zq_ct, zq_pm, zq_ctF, zq_pmF, zq_cj_add, zq_cj_mul]
  rw [Nat.add_comm]
theorem zq_ct_ct (A : zq_T) : zq_ct (zq_ct A) = A := by
  simp only [zq_ct, zq_ctF, zq_cj_cj]
theorem zq_ov_ct (A : zq_F) : zq_ov (zq_ctF A) = zq_ov A := by
  simp only [zq_ov, zq_ctF, zq_ev_cj]
  cases zq_ev A.1 <;> cases zq_ev A.2.1 <;> cases zq_ev A.2.2.1 <;> cases zq_ev A.2.2.2 <;> rfl
theorem zq_ct_lowF : ∀ (e : Nat) (A : zq_F), zq_ct (zq_lowF e A) = zq_lowF e (zq_ctF A)
  | 0, _ => rfl
  | e + 1, A => by
    unfold zq_lowF
    rw [zq_ov_ct]
    by_cases h : zq_ov A = true
    · rw [if_pos h, if_pos h, zq_ct_lowF e]
      congr 1
      simp only [zq_ov, Bool.and_eq_true] at h
      obtain ⟨e1, e2, e3, e4⟩ := h
      simp only [zq_ctF, zq_map, zq_dv_cj e1, zq_dv_cj e2, zq_dv_cj e3, zq_dv_cj e4]
    · rw [if_neg h, if_neg h]
      rfl
theorem zq_ct_low (A : zq_T) : zq_ct (zq_low A) = zq_low (zq_ct A) := zq_ct_lowF A.2 A.1
theorem zq_ct_lm (A B : zq_T) : zq_ct (zq_lm A B) = zq_lm (zq_ct B) (zq_ct A) := by
  unfold zq_lm
  rw [zq_ct_low, zq_ct_pm]
theorem zq_ct_ls {A : zq_T} (h : zq_ls A) : zq_ls (zq_ct A) := by
  rcases h with h | h
  · exact Or.inl h
  · exact Or.inr (by show zq_ov (zq_ctF A.1) = false; rw [zq_ov_ct]; exact h)
/-! values of words -/
def zq_val (w : List Nat) : zq_T := w.foldl (fun A g => zq_lm A (zq_gt g)) zq_one
theorem zq_val_snoc (w : List Nat) (g : Nat) : zq_val (w ++ [g]) = zq_lm (zq_val w) (zq_gt g) := by
  simp [zq_val, List.foldl_append]
theorem zq_val_ls (w : List Nat) : zq_ls (zq_val w) := by
  rcases List.eq_nil_or_concat w with h | ⟨u, g, h⟩
  · rw [h]; exact Or.inl rfl
  · rw [h, List.concat_eq_append, zq_val_snoc]; exact zq_lm_ls _ _
theorem zq_fold : ∀ (v : List Nat) (A : zq_T), zq_ls A → v.foldl (fun A g => zq_lm A (zq_gt g)) A = zq_lm A (zq_val v)
  | [], A, h => (zq_lm_one h).symm
  | g :: v, A, h => by
    show v.foldl (fun A g => zq_lm A (zq_gt g)) (zq_lm A (zq_gt g)) = zq_lm A (v.foldl (fun A g => zq_lm A (zq_gt g)) (zq_lm zq_one (zq_gt g)))
    rw [zq_fold v _ (zq_lm_ls _ _), zq_fold v _ (zq_lm_ls _ _), ← zq_lm_assoc, ← zq_lm_assoc, zq_lm_one h]
theorem zq_val_app (u v : List Nat) : zq_val (u ++ v) = zq_lm (zq_val u) (zq_val v) := by
  unfold zq_val
  rw [List.foldl_append]
  exact zq_fold v _ (zq_val_ls u)
theorem zq_val_cons (g : Nat) (v : List Nat) : zq_val (g :: v) = zq_lm (zq_gt g) (zq_val v) := by
  rw [show g :: v = [g] ++ v from rfl, zq_val_app]
  show zq_lm (zq_lm zq_one (zq_gt g)) (zq_val v) = _
  unfold zq_lm
  rw [zq_one_pm]
  exact zq_lm_l _ _
/-- the other way about -/
def zq_inv1 (g : Nat) : List Nat := if g = 1 then [6] else if g = 6 then [1] else if g = 2 then [2, 4] else if g = 5 then [5, 5, 5, 5, 5, 5, 5] else [g]
def zq_inv : List Nat → List Nat
  | [] => []
  | g :: w => zq_inv w ++ zq_inv1 g
theorem zq_ct_gt (g : Nat) (h : g < 7) : zq_ct (zq_gt g) = zq_val (zq_inv1 g) := by
  match g, h with
  | 0, _ => exact zq_dec (by decide +kernel)
  | 1, _ => exact zq_dec (by decide +kernel)
  | 2, _ => exact zq_dec (by decide +kernel)
  | 3, _ => exact zq_dec (by decide +kernel)
  | 4, _ => exact zq_dec (by decide +kernel)
  | 5, _ => exact zq_dec (by decide +kernel)
  | 6, _ => exact zq_dec (by decide +kernel)
  | g + 7, h => omega
theorem zq_ct_val : ∀ (w : List Nat), (∀ g ∈ w, g < 7) → zq_ct (zq_val w) = zq_val (zq_inv w)
  | [], _ => rfl
  | g :: w, h => by
    rw [zq_val_cons, zq_ct_lm, zq_ct_val w (fun x hx => h x (List.mem_cons_of_mem _ hx)), zq_ct_gt g (h g List.mem_cons_self)]
    exact (zq_val_app _ _).symm
theorem zq_inv_lt : ∀ (w : List Nat), (∀ g ∈ w, g < 7) → ∀ g ∈ zq_inv w, g < 7
  | [], _ => fun g hg => by cases hg
  | x :: w, h => fun g hg => by
    rcases List.mem_append.mp hg with q | q
    · exact zq_inv_lt w (fun x hx => h x (List.mem_cons_of_mem _ hx)) g q
    · have hx := h x List.mem_cons_self
      unfold zq_inv1 at q
      split at q
      · simp at q; omega
      · split at q
        · simp at q; omega
        · split at q
          · simp at q; omega
          · split at q
            · simp at q; omega
            · simp at q; omega
/-- tables that come about -/
def zq_ok (A : zq_T) : Prop := ∃ w : List Nat, (∀ g ∈ w, g < 7) ∧ A = zq_val w
theorem zq_ok.ls {A : zq_T} (h : zq_ok A) : zq_ls A := by obtain ⟨w, -, rfl⟩ := h; exact zq_val_ls w
theorem zq_ok.one : zq_ok zq_one := ⟨[], (fun g h => by cases h), rfl⟩
theorem zq_ok.mul {A B : zq_T} (h : zq_ok A) (k : zq_ok B) : zq_ok (zq_lm A B) := by
  obtain ⟨u, hu, rfl⟩ := h
  obtain ⟨v, hv, rfl⟩ := k
  exact ⟨u ++ v, fun g hg => (List.mem_append.mp hg).elim (hu g) (hv g), (zq_val_app u v).symm⟩
theorem zq_ok.ct {A : zq_T} (h : zq_ok A) : zq_ok (zq_ct A) := by
  obtain ⟨u, hu, rfl⟩ := h
  exact ⟨zq_inv u, zq_inv_lt u hu, zq_ct_val u hu⟩
theorem zq_ok.gt {g : Nat} (h : g < 7) : zq_ok (zq_lm zq_one (zq_gt g)) := ⟨[g], (fun x hx => by simp at hx; omega), rfl⟩
theorem zq_gt_ls (g : Nat) (h : g < 7) : zq_ls (zq_gt g) := by
  match g, h with
  | 0, _ => exact Or.inr rfl
  | 1, _ => exact Or.inl rfl
  | 2, _ => exact Or.inl rfl
  | 3, _ => exact Or.inl rfl
  | 4, _ => exact Or.inl rfl
  | 5, _ => exact Or.inl rfl
  | 6, _ => exact Or.inl rfl
  | g + 7, h => omega
theorem zq_ok.gt1 {g : Nat} (h : g < 7) : zq_ok (zq_gt g) := by
  have := zq_ok.gt h
  rw [zq_one_lm (zq_gt_ls g h)] at this
  exact this
/-! unitary -/
theorem zq_gi (g : Nat) (h : g < 7) : zq_lm (zq_gt g) (zq_ct (zq_gt g)) = zq_one ∧ zq_lm (zq_ct (zq_gt g)) (zq_gt g) = zq_one := by
  match g, h with
  | 0, _ => exact ⟨zq_dec (by decide +kernel), zq_dec (by decide +kernel)⟩
  | 1, _ => exact ⟨zq_dec (by decide +kernel), zq_dec (by decide +kernel)⟩
  | 2, _ => exact ⟨zq_dec (by decide +kernel), zq_dec (by decide +kernel)⟩
  | 3, _ => exact ⟨zq_dec (by decide +kernel), zq_dec (by decide +kernel)⟩
  | 4, _ => exact ⟨zq_dec (by decide +kernel), zq_dec (by decide +kernel)⟩
  | 5, _ => exact ⟨zq_dec (by decide +kernel), zq_dec (by decide +kernel)⟩
  | 6, _ => exact ⟨zq_dec (by decide +kernel), zq_dec (by decide +kernel)⟩
  | g + 7, h => omega
theorem zq_un_val : ∀ (w : List Nat), (∀ g ∈ w, g < 7) → zq_lm (zq_val w) (zq_ct (zq_val w)) = zq_one ∧ zq_lm (zq_ct (zq_val w)) (zq_val w) = zq_one
  | [], _ => ⟨zq_dec (by decide +kernel), zq_dec (by decide +kernel)⟩
  | g :: w, h => by
    have hg := h g List.mem_cons_self
    obtain ⟨i1, i2⟩ := zq_un_val w (fun x hx => h x (List.mem_cons_of_mem _ hx))
    obtain ⟨j1, j2⟩ := zq_gi g hg
    rw [zq_val_cons, zq_ct_lm]
    refine ⟨?_, ?_⟩
    · rw [zq_lm_assoc, ← zq_lm_assoc (zq_val w), i1, zq_one_lm (zq_ct_ls (zq_gt_ls g hg)), j1]
    · rw [zq_lm_assoc, ← zq_lm_assoc (zq_ct (zq_gt g)), j2, zq_one_lm (zq_val_ls w), i2]
theorem zq_ok.un {A : zq_T} (h : zq_ok A) : zq_lm A (zq_ct A) = zq_one ∧ zq_lm (zq_ct A) A = zq_one := by
  obtain ⟨u, hu, rfl⟩ := h
  exact zq_un_val u hu
theorem zq_up_two : ∀ (n : Nat) (e : Nat) (k : Int), zq_up (2 * n) (((k, 0, 0, 0), (0, 0, 0, 0), (0, 0, 0, 0), (k, 0, 0, 0)), e) = (((2 ^ n * k, 0, 0, 0), (0, 0, 0, 0), (0, 0, 0, 0), (2 ^ n * k, 0, 0, 0)), e + 2 * n)
  | 0, e, k => by simp [zq_up]
  | n + 1, e, k => by
    show zq_up (2 * n) (zq_map zq_R (zq_map zq_R ((k, 0, 0, 0), (0, 0, 0, 0), (0, 0, 0, 0), (k, 0, 0, 0))), e + 1 + 1) = _
    have e1 : zq_map zq_R (zq_map zq_R ((k, 0, 0, 0), (0, 0, 0, 0), (0, 0, 0, 0), (k, 0, 0, 0))) = (((2 * k, 0, 0, 0), (0, 0, 0, 0), (0, 0, 0, 0), (2 * k, 0, 0, 0)) : zq_F) := by
      simp only [zq_map, zq_R, Prod.mk.injEq]
      refine ⟨⟨?_, ?_, ?_, ?_⟩, ⟨?_, ?_, ?_, ?_⟩, ⟨?_, ?_, ?_, ?_⟩, ?_, ?_, ?_, ?_⟩ <;> omega
    rw [e1, zq_up_two n]
    have e2 : (2 : Int) ^ n * (2 * k) = 2 ^ (n + 1) * k := by rw [Int.pow_succ, Int.mul_assoc]
    rw [e2]
    congr 1
    omega
/-- the product with the turned one, not lowered -/
theorem zq_ok.sq {A : zq_T} (h : zq_ok A) : zq_pmF A.1 (zq_ctF A.1) = ((2 ^ A.2, 0, 0, 0), (0, 0, 0, 0), (0, 0, 0, 0), (2 ^ A.2, 0, 0, 0)) ∧ zq_pmF (zq_ctF A.1) A.1 = ((2 ^ A.2, 0, 0, 0), (0, 0, 0, 0), (0, 0, 0, 0), (2 ^ A.2, 0, 0, 0)) := by
  obtain ⟨h1, h2⟩ := h.un
  have k : ∀ B : zq_T, zq_low B = zq_one → B.2 = 2 * A.2 → B.1 = ((2 ^ A.2, 0, 0, 0), (0, 0, 0, 0), (0, 0, 0, 0), (2 ^ A.2, 0, 0, 0)) := by
    intro B hB he
    obtain ⟨n, e1, e2⟩ := zq_low_up B
    rw [hB] at e1 e2
    have hn : n = 2 * A.2 := by
      have : zq_one.2 = 0 := rfl
      omega
    rw [hn] at e1
    rw [e1]
    show (zq_up (2 * A.2) (((1, 0, 0, 0), (0, 0, 0, 0), (0, 0, 0, 0), (1, 0, 0, 0)), 0)).1 = _
    rw [zq_up_two]
    simp
  exact ⟨k (zq_pm A (zq_ct A)) h1 (by show A.2 + A.2 = _; omega), k (zq_pm (zq_ct A) A) h2 (by show A.2 + A.2 = _; omega)⟩
