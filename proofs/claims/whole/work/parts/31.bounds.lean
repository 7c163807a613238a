/-! How large numbers are. -/
theorem zv_mul {m n x y : Int} (h1 : -m ≤ x) (h2 : x ≤ m) (h3 : -n ≤ y) (h4 : y ≤ n) : -(m * n) ≤ x * y ∧ x * y ≤ m * n := by
  have a1 : 0 ≤ (m - x) * (n + y) := Int.mul_nonneg (by omega) (by omega)
  have a2 : 0 ≤ (m + x) * (n - y) := Int.mul_nonneg (by omega) (by omega)
  have a3 : 0 ≤ (m - x) * (n - y) := Int.mul_nonneg (by omega) (by omega)
  have a4 : 0 ≤ (m + x) * (n + y) := Int.mul_nonneg (by omega) (by omega)
  have e1 : (m - x) * (n + y) = m * n + m * y - x * n - x * y := by grind
  have e2 : (m + x) * (n - y) = m * n - m * y + x * n - x * y := by grind
  have e3 : (m - x) * (n - y) = m * n - m * y - x * n + x * y := by grind
  have e4 : (m + x) * (n + y) = m * n + m * y + x * n + x * y := by grind
  constructor <;> omega
def zv (z : zq_N) (n : Int) : Prop := (-n ≤ z.1 ∧ z.1 ≤ n) ∧ (-n ≤ z.2.1 ∧ z.2.1 ≤ n) ∧ (-n ≤ z.2.2.1 ∧ z.2.2.1 ≤ n) ∧ (-n ≤ z.2.2.2 ∧ z.2.2.2 ≤ n)
theorem zv_prod {x y : zq_N} {m n : Int} (hx : zv x m) (hy : zv y n) : zv (zq_mul x y) (4 * (m * n)) := by
  obtain ⟨⟨a1, a2⟩, ⟨b1, b2⟩, ⟨c1, c2⟩, d1, d2⟩ := hx
  obtain ⟨⟨e1, e2⟩, ⟨f1, f2⟩, ⟨g1, g2⟩, h1, h2⟩ := hy
  have p11 := zv_mul a1 a2 e1 e2
  have p12 := zv_mul a1 a2 f1 f2
  have p13 := zv_mul a1 a2 g1 g2
  have p14 := zv_mul a1 a2 h1 h2
  have p21 := zv_mul b1 b2 e1 e2
  have p22 := zv_mul b1 b2 f1 f2
  have p23 := zv_mul b1 b2 g1 g2
  have p24 := zv_mul b1 b2 h1 h2
  have p31 := zv_mul c1 c2 e1 e2
  have p32 := zv_mul c1 c2 f1 f2
  have p33 := zv_mul c1 c2 g1 g2
  have p34 := zv_mul c1 c2 h1 h2
  have p41 := zv_mul d1 d2 e1 e2
  have p42 := zv_mul d1 d2 f1 f2
  have p43 := zv_mul d1 d2 g1 g2
  have p44 := zv_mul d1 d2 h1 h2
  unfold zv zq_mul
  dsimp only
  refine ⟨⟨?_, ?_⟩, ⟨?_, ?_⟩, ⟨?_, ?_⟩, ?_, ?_⟩ <;> omega
theorem zv_sum {x y : zq_N} {m n : Int} (hx : zv x m) (hy : zv y n) : zv (zq_add x y) (m + n) := by
  obtain ⟨⟨a1, a2⟩, ⟨b1, b2⟩, ⟨c1, c2⟩, d1, d2⟩ := hx
  obtain ⟨⟨e1, e2⟩, ⟨f1, f2⟩, ⟨g1, g2⟩, h1, h2⟩ := hy
  unfold zv zq_add
  dsimp only
  refine ⟨⟨?_, ?_⟩, ⟨?_, ?_⟩, ⟨?_, ?_⟩, ?_, ?_⟩ <;> omega
theorem zb_v {A : zq_F} {n : Int} : zb A n ↔ zv A.1 n ∧ zv A.2.1 n ∧ zv A.2.2.1 n ∧ zv A.2.2.2 n := by
  constructor
  · intro h
    exact ⟨h 0 (by omega), h 1 (by omega), h 2 (by omega), h 3 (by omega)⟩
  · intro h
    exact zb_mk h.1 h.2.1 h.2.2.1 h.2.2.2
theorem zb_pm {A B : zq_F} {m n : Int} (ha : zb A m) (hb : zb B n) : zb (zq_pmF A B) (8 * (m * n)) := by
  rw [zb_v] at ha hb
  obtain ⟨a1, a2, a3, a4⟩ := ha
  obtain ⟨b1, b2, b3, b4⟩ := hb
  have e : 4 * (m * n) + 4 * (m * n) = 8 * (m * n) := by omega
  rw [zb_v, ← e]
  exact ⟨zv_sum (zv_prod a1 b1) (zv_prod a2 b3), zv_sum (zv_prod a1 b2) (zv_prod a2 b4), zv_sum (zv_prod a3 b1) (zv_prod a4 b3), zv_sum (zv_prod a3 b2) (zv_prod a4 b4)⟩
theorem zb_le {A : zq_F} {m n : Int} (h : zb A m) (hmn : m ≤ n) : zb A n := by
  intro i hi
  obtain ⟨h1, h2, h3, h4⟩ := h i hi
  refine ⟨⟨?_, ?_⟩, ⟨?_, ?_⟩, ⟨?_, ?_⟩, ?_, ?_⟩ <;> omega
theorem zv_sq {c n : Int} (hn : 0 ≤ n) (h : c * c ≤ n * n) : -n ≤ c ∧ c ≤ n := by
  constructor
  · apply Classical.byContradiction
    intro hc
    have h1 : 0 ≤ (-c - (n + 1)) * (-c + (n + 1)) := Int.mul_nonneg (by omega) (by omega)
    have e : (-c - (n + 1)) * (-c + (n + 1)) = c * c - n * n - 2 * n - 1 := by grind
    omega
  · apply Classical.byContradiction
    intro hc
    have h1 : 0 ≤ (c - (n + 1)) * (c + (n + 1)) := Int.mul_nonneg (by omega) (by omega)
    have e : (c - (n + 1)) * (c + (n + 1)) = c * c - n * n - 2 * n - 1 := by grind
    omega
theorem zv_row {x y : zq_N} {n K : Int} (hn : 0 ≤ n) (hK : K ≤ n * n) (h : (zq_add (zq_mul x (zq_cj x)) (zq_mul y (zq_cj y))).1 = K) : zv x n ∧ zv y n := by
  obtain ⟨a, b, c, d⟩ := x
  obtain ⟨e, f, g, k⟩ := y
  have sq : ∀ z : Int, 0 ≤ z * z := fun z => by
    rcases Int.le_total 0 z with hz | hz
    · exact Int.mul_nonneg hz hz
    · have := Int.mul_nonneg (show 0 ≤ -z by omega) (show 0 ≤ -z by omega)
      have e : -z * -z = z * z := by grind
      omega
  have e1 : (zq_add (zq_mul (a, b, c, d) (zq_cj (a, b, c, d))) (zq_mul (e, f, g, k) (zq_cj (e, f, g, k)))).1 = a * a + b * b + c * c + d * d + (e * e + f * f + g * g + k * k) := by
    simp only [zq_add, zq_mul, zq_cj]
    grind
  rw [e1] at h
  have s1 := sq a
  have s2 := sq b
  have s3 := sq c
  have s4 := sq d
  have s5 := sq e
  have s6 := sq f
  have s7 := sq g
  have s8 := sq k
  have q1 : a * a ≤ n * n := by omega
  have q2 : b * b ≤ n * n := by omega
  have q3 : c * c ≤ n * n := by omega
  have q4 : d * d ≤ n * n := by omega
  have q5 : e * e ≤ n * n := by omega
  have q6 : f * f ≤ n * n := by omega
  have q7 : g * g ≤ n * n := by omega
  have q8 : k * k ≤ n * n := by omega
  exact ⟨⟨zv_sq hn q1, zv_sq hn q2, zv_sq hn q3, zv_sq hn q4⟩, ⟨zv_sq hn q5, zv_sq hn q6, zv_sq hn q7, zv_sq hn q8⟩⟩
theorem zq_ok.bd {A : zq_T} (h : zq_ok A) (k : Nat) (hk : A.2 ≤ 2 * k) : zb A.1 (2 ^ k) := by
  have hs := h.sq.1
  have hK : (2 : Int) ^ A.2 ≤ 2 ^ k * 2 ^ k := by
    rw [← Int.pow_add]
    have : (2 : Nat) ^ A.2 ≤ 2 ^ (k + k) := Nat.pow_le_pow_right (by decide) (by omega)
    exact_mod_cast this
  have hn : (0 : Int) ≤ 2 ^ k := Int.pow_nonneg (by decide)
  unfold zq_pmF zq_ctF at hs
  simp only [Prod.mk.injEq] at hs
  have r0 := zv_row hn hK (congrArg (fun z : zq_N => z.1) hs.1)
  have r1 := zv_row hn hK (congrArg (fun z : zq_N => z.1) hs.2.2.2)
  rw [zb_v]
  exact ⟨r0.1, r0.2, r1.1, r1.2⟩
theorem zq_e_val : ∀ (w : List Nat), (∀ g ∈ w, g < 7) → (zq_val w).2 ≤ w.length
  | [], _ => Nat.le_refl _
  | g :: w, h => by
    rw [zq_val_cons]
    have ih := zq_e_val w (fun x hx => h x (List.mem_cons_of_mem _ hx))
    obtain ⟨n, -, h2⟩ := zq_low_up (zq_pm (zq_gt g) (zq_val w))
    have hg : (zq_gt g).2 ≤ 1 := by
      have := h g List.mem_cons_self
      match g, this with
      | 0, _ => exact Nat.le_refl 1
      | 1, _ => exact Nat.zero_le 1
      | 2, _ => exact Nat.zero_le 1
      | 3, _ => exact Nat.zero_le 1
      | 4, _ => exact Nat.zero_le 1
      | 5, _ => exact Nat.zero_le 1
      | 6, _ => exact Nat.zero_le 1
      | g + 7, h => omega
    have h3 : (zq_pm (zq_gt g) (zq_val w)).2 = (zq_gt g).2 + (zq_val w).2 := rfl
    show (zq_low (zq_pm (zq_gt g) (zq_val w))).2 ≤ w.length + 1
    omega
