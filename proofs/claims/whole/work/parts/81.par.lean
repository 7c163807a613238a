/-! The nine numbers: which are even. -/
def bit (x : Int) : Bool := decide (x % 2 = 1)
theorem bit_t {x : Int} : bit x = true ↔ x % 2 = 1 := by unfold bit; exact decide_eq_true_iff
theorem bit_f {x : Int} : bit x = false ↔ x % 2 = 0 := by unfold bit; rw [decide_eq_false_iff_not]; omega
theorem bit_mul (a b : Int) : bit (a * b) = (bit a && bit b) := by
  have h : (a * b) % 2 = ((a % 2) * (b % 2)) % 2 := Int.mul_emod a b 2
  have ha : a % 2 = 0 ∨ a % 2 = 1 := by omega
  have hb : b % 2 = 0 ∨ b % 2 = 1 := by omega
  unfold bit
  rw [h]
  rcases ha with e | e <;> rcases hb with e2 | e2 <;> rw [e, e2] <;> rfl
theorem bit_add (a b : Int) : bit (a + b) = xor (bit a) (bit b) := by
  have ha : a % 2 = 0 ∨ a % 2 = 1 := by omega
  have hb : b % 2 = 0 ∨ b % 2 = 1 := by omega
  rcases ha with e | e <;> rcases hb with e2 | e2
  · rw [bit_f.mpr e, bit_f.mpr e2, bit_f.mpr (by omega)]; rfl
  · rw [bit_f.mpr e, bit_t.mpr e2, bit_t.mpr (by omega)]; rfl
  · rw [bit_t.mpr e, bit_f.mpr e2, bit_t.mpr (by omega)]; rfl
  · rw [bit_t.mpr e, bit_t.mpr e2, bit_f.mpr (by omega)]; rfl
theorem bit_2 (a : Int) : bit (2 * a) = false := bit_f.mpr (by omega)
def x3 (a b c : Bool) : Bool := xor (xor a b) c
theorem par3 {a1 b1 a2 b2 a3 b3 : Int} (h : (a1 * b1 + a2 * b2 + a3 * b3) % 2 = 0) : x3 (bit a1 && bit b1) (bit a2 && bit b2) (bit a3 && bit b3) = false := by
  have := bit_f.mpr h
  rw [bit_add, bit_add, bit_mul, bit_mul, bit_mul] at this
  exact this
theorem sq4 (x : Int) : (x * x) % 4 = if bit x = true then 1 else 0 := by
  have h : x % 2 = 0 ∨ x % 2 = 1 := by omega
  rcases h with e | e
  · rw [bit_f.mpr e, if_neg (by decide)]
    obtain ⟨k, hk⟩ : ∃ k, x = 2 * k := ⟨x / 2, by omega⟩
    rw [hk]
    have : 2 * k * (2 * k) = 4 * (k * k) := by grind
    omega
  · rw [bit_t.mpr e, if_pos rfl]
    obtain ⟨k, hk⟩ : ∃ k, x = 2 * k + 1 := ⟨x / 2, by omega⟩
    rw [hk]
    have : (2 * k + 1) * (2 * k + 1) = 4 * (k * k + k) + 1 := by grind
    omega
theorem pow2_4 {f : Nat} (h : 0 < f) : (2 : Int) ^ f % 4 = if f = 1 then 2 else 0 := by
  by_cases e : f = 1
  · rw [if_pos e, e]; decide
  · rw [if_neg e]
    obtain ⟨d, rfl⟩ : ∃ d, f = d + 2 := ⟨f - 2, by omega⟩
    rw [Int.pow_add]
    have : (2 : Int) ^ 2 = 4 := by decide
    rw [this]
    omega
/-- a row or column of three: its norm -/
theorem norm3 {p q r : Int × Int} {f : Nat} (hf : 0 < f) (h : dX p p + dX q q + dX r r = 2 ^ f) : x3 (bit p.1) (bit q.1) (bit r.1) = false ∧ (x3 (bit p.2) (bit q.2) (bit r.2) = (if bit p.1 = true ∨ bit q.1 = true ∨ bit r.1 = true then decide (f ≠ 1) else decide (f = 1))) := by
  have h4 := pow2_4 hf
  rw [← h] at h4
  unfold dX at h4
  have a1 := sq4 p.1
  have a2 := sq4 q.1
  have a3 := sq4 r.1
  have b1 := sq4 p.2
  have b2 := sq4 q.2
  have b3 := sq4 r.2
  generalize p.1 * p.1 = x1 at *
  generalize q.1 * q.1 = x2 at *
  generalize r.1 * r.1 = z3 at *
  generalize p.2 * p.2 = y1 at *
  generalize q.2 * q.2 = y2 at *
  generalize r.2 * r.2 = y3 at *
  by_cases c : f = 1
  · rw [if_pos c] at h4
    rw [decide_eq_false (fun z : f ≠ 1 => z c), decide_eq_true c]
    generalize bit p.1 = u1 at *
    generalize bit q.1 = u2 at *
    generalize bit r.1 = u3 at *
    generalize bit p.2 = v1 at *
    generalize bit q.2 = v2 at *
    generalize bit r.2 = v3 at *
    cases u1 <;> cases u2 <;> cases u3 <;> cases v1 <;> cases v2 <;> cases v3 <;> simp [x3] at * <;> omega
  · rw [if_neg c] at h4
    rw [decide_eq_true (show f ≠ 1 from c), decide_eq_false c]
    generalize bit p.1 = u1 at *
    generalize bit q.1 = u2 at *
    generalize bit r.1 = u3 at *
    generalize bit p.2 = v1 at *
    generalize bit q.2 = v2 at *
    generalize bit r.2 = v3 at *
    cases u1 <;> cases u2 <;> cases u3 <;> cases v1 <;> cases v2 <;> cases v3 <;> simp [x3] at * <;> omega
theorem ydia {p q r : Int × Int} (h : dY p p + dY q q + dY r r = 0) : x3 (bit p.1 && bit p.2) (bit q.1 && bit q.2) (bit r.1 && bit r.2) = false := by
  apply par3
  unfold dY at h
  have e1 : p.2 * p.1 = p.1 * p.2 := Int.mul_comm _ _
  have e2 : q.2 * q.1 = q.1 * q.2 := Int.mul_comm _ _
  have e3 : r.2 * r.1 = r.1 * r.2 := Int.mul_comm _ _
  rw [e1, e2, e3] at h
  generalize p.1 * p.2 = x1 at *
  generalize q.1 * q.2 = x2 at *
  generalize r.1 * r.2 = z3 at *
  omega
theorem xdot {p q r p' q' r' : Int × Int} (h : dX p p' + dX q q' + dX r r' = 0) : x3 (bit p.1 && bit p'.1) (bit q.1 && bit q'.1) (bit r.1 && bit r'.1) = false := by
  apply par3
  unfold dX at h
  omega
theorem pat : ∀ a0 a1 a2 b0 b1 b2 c0 c1 c2 : Bool, x3 a0 a1 a2 = false → x3 b0 b1 b2 = false → x3 c0 c1 c2 = false → x3 a0 b0 c0 = false → x3 a1 b1 c1 = false → x3 a2 b2 c2 = false → x3 (a0 && b0) (a1 && b1) (a2 && b2) = false → x3 (a0 && c0) (a1 && c1) (a2 && c2) = false → x3 (b0 && c0) (b1 && c1) (b2 && c2) = false → (a0 || a1 || a2 || b0 || b1 || b2 || c0 || c1 || c2) = true → ((c0 = false ∧ c1 = false ∧ c2 = false) ∧ (a0 = b0 ∧ a1 = b1 ∧ a2 = b2) ∧ (a0 || a1 || a2) = true) ∨ ((a0 = false ∧ a1 = false ∧ a2 = false) ∧ (b0 = c0 ∧ b1 = c1 ∧ b2 = c2) ∧ (b0 || b1 || b2) = true) ∨ ((b0 = false ∧ b1 = false ∧ b2 = false) ∧ (a0 = c0 ∧ a1 = c1 ∧ a2 = c2) ∧ (a0 || a1 || a2) = true) := by decide +kernel
theorem ypat : ∀ v0 v1 v2 a0 a1 a2 b0 b1 b2 t : Bool, x3 v0 v1 v2 = false → (v0 || v1 || v2) = true → x3 (v0 && a0) (v1 && a1) (v2 && a2) = false → x3 (v0 && b0) (v1 && b1) (v2 && b2) = false → x3 a0 a1 a2 = t → x3 b0 b1 b2 = t → xor (v0 && a0) (v0 && b0) = false → xor (v1 && a1) (v1 && b1) = false → xor (v2 && a2) (v2 && b2) = false → a0 = b0 ∧ a1 = b1 ∧ a2 = b2 := by decide +kernel
theorem bit_eq {x y : Int} (h : bit x = bit y) : (x + y) % 2 = 0 := by
  have := bit_add x y
  rw [h] at this
  have e : xor (bit y) (bit y) = false := by cases bit y <;> rfl
  rw [e] at this
  exact bit_f.mp this
def ev2 (V : Nat → Int × Int) (r : Nat) : Prop := ∀ j, j < 3 → (V (3 * r + j)).1 % 2 = 0
def cg2 (V : Nat → Int × Int) (p q : Nat) : Prop := ∀ j, j < 3 → ((V (3 * p + j)).1 + (V (3 * q + j)).1) % 2 = 0 ∧ ((V (3 * p + j)).2 + (V (3 * q + j)).2) % 2 = 0
theorem zor3 {a b c : Bool} : (a || b || c) = true → (a = true ∨ b = true ∨ c = true) := by cases a <;> cases b <;> cases c <;> simp
/-- two rows alike, the third even -/
theorem rows2 {p0 p1 p2 q0 q1 q2 r0 r1 r2 : Int × Int} {f : Nat} (hf : 0 < f) (hp : dX p0 p0 + dX p1 p1 + dX p2 p2 = 2 ^ f) (hq : dX q0 q0 + dX q1 q1 + dX q2 q2 = 2 ^ f) (yp : dY p0 p0 + dY p1 p1 + dY p2 p2 = 0) (yq : dY q0 q0 + dY q1 q1 + dY q2 q2 = 0) (y0 : dY p0 p0 + dY q0 q0 + dY r0 r0 = 0) (y1 : dY p1 p1 + dY q1 q1 + dY r1 r1 = 0) (y2 : dY p2 p2 + dY q2 q2 + dY r2 r2 = 0) (hr : bit r0.1 = false ∧ bit r1.1 = false ∧ bit r2.1 = false) (hpq : bit p0.1 = bit q0.1 ∧ bit p1.1 = bit q1.1 ∧ bit p2.1 = bit q2.1) (hv : (bit p0.1 || bit p1.1 || bit p2.1) = true) : bit p0.2 = bit q0.2 ∧ bit p1.2 = bit q1.2 ∧ bit p2.2 = bit q2.2 := by
  obtain ⟨n1, n2⟩ := norm3 hf hp
  obtain ⟨m1, m2⟩ := norm3 hf hq
  rw [if_pos (zor3 hv)] at n2
  rw [← hpq.1, ← hpq.2.1, ← hpq.2.2, if_pos (zor3 hv)] at m2
  have a := ydia yp
  have b := ydia yq
  rw [← hpq.1, ← hpq.2.1, ← hpq.2.2] at b
  have c0 := ydia y0
  have c1 := ydia y1
  have c2 := ydia y2
  rw [hr.1, ← hpq.1] at c0
  rw [hr.2.1, ← hpq.2.1] at c1
  rw [hr.2.2, ← hpq.2.2] at c2
  have z : ∀ u v w : Bool, x3 u v (false && w) = xor u v := by decide
  rw [z] at c0 c1 c2
  exact ypat _ _ _ _ _ _ _ _ _ _ n1 hv a b n2 m2 c0 c1 c2
theorem dX_c (p q : Int × Int) : dX p q = dX q p := by
  unfold dX
  rw [Int.mul_comm p.1, Int.mul_comm p.2]
theorem che_bits {V : Nat → Int × Int} (h : che V 9 = false) : (bit (V 0).1 || bit (V 1).1 || bit (V 2).1 || bit (V 3).1 || bit (V 4).1 || bit (V 5).1 || bit (V 6).1 || bit (V 7).1 || bit (V 8).1) = true := by
  by_cases c : (bit (V 0).1 || bit (V 1).1 || bit (V 2).1 || bit (V 3).1 || bit (V 4).1 || bit (V 5).1 || bit (V 6).1 || bit (V 7).1 || bit (V 8).1) = true
  · exact c
  · exfalso
    simp only [Bool.not_eq_true, Bool.or_eq_false_iff, bit_f] at c
    have : che V 9 = true := (che_iff V 9).mpr (fun k hk => by
      have : k = 0 ∨ k = 1 ∨ k = 2 ∨ k = 3 ∨ k = 4 ∨ k = 5 ∨ k = 6 ∨ k = 7 ∨ k = 8 := by omega
      rcases this with rfl | rfl | rfl | rfl | rfl | rfl | rfl | rfl | rfl <;> omega)
    rw [h] at this
    cases this
theorem ev2_of {V : Nat → Int × Int} {r : Nat} (h : bit (V (3 * r)).1 = false ∧ bit (V (3 * r + 1)).1 = false ∧ bit (V (3 * r + 2)).1 = false) : ev2 V r := by
  intro j hj
  have : j = 0 ∨ j = 1 ∨ j = 2 := by omega
  rcases this with rfl | rfl | rfl
  · exact bit_f.mp h.1
  · exact bit_f.mp h.2.1
  · exact bit_f.mp h.2.2
theorem cg2_of {V : Nat → Int × Int} {p q : Nat} (h : bit (V (3 * p)).1 = bit (V (3 * q)).1 ∧ bit (V (3 * p + 1)).1 = bit (V (3 * q + 1)).1 ∧ bit (V (3 * p + 2)).1 = bit (V (3 * q + 2)).1) (k : bit (V (3 * p)).2 = bit (V (3 * q)).2 ∧ bit (V (3 * p + 1)).2 = bit (V (3 * q + 1)).2 ∧ bit (V (3 * p + 2)).2 = bit (V (3 * q + 2)).2) : cg2 V p q := by
  intro j hj
  have : j = 0 ∨ j = 1 ∨ j = 2 := by omega
  rcases this with rfl | rfl | rfl
  · exact ⟨bit_eq h.1, bit_eq k.1⟩
  · exact ⟨bit_eq h.2.1, bit_eq k.2.1⟩
  · exact ⟨bit_eq h.2.2, bit_eq k.2.2⟩
theorem ch_par {V : Nat → Int × Int} {f : Nat} (hf : 0 < f) (hC : orC V (2 ^ f)) (hR : orR V (2 ^ f)) (he : che V 9 = false) : (ev2 V 2 ∧ cg2 V 0 1) ∨ (ev2 V 0 ∧ cg2 V 1 2) ∨ (ev2 V 1 ∧ cg2 V 0 2) := by
  have r00 := hR 0 0 (by omega) (by omega)
  have r11 := hR 1 1 (by omega) (by omega)
  have r22 := hR 2 2 (by omega) (by omega)
  have r01 := (hR 0 1 (by omega) (by omega)).1
  have r02 := (hR 0 2 (by omega) (by omega)).1
  have r12 := (hR 1 2 (by omega) (by omega)).1
  have c00 := hC 0 0 (by omega) (by omega)
  have c11 := hC 1 1 (by omega) (by omega)
  have c22 := hC 2 2 (by omega) (by omega)
  simp only [if_true, Nat.mul_zero, Nat.mul_one, Nat.zero_add, Nat.add_zero, Nat.reduceAdd, Nat.reduceMul, Nat.reduceEqDiff, if_false, Nat.zero_ne_one] at r00 r11 r22 r01 r02 r12 c00 c11 c22
  have n0 := (norm3 hf r00.1).1
  have n1 := (norm3 hf r11.1).1
  have n2 := (norm3 hf r22.1).1
  have m0 := (norm3 hf c00.1).1
  have m1 := (norm3 hf c11.1).1
  have m2 := (norm3 hf c22.1).1
  rcases pat _ _ _ _ _ _ _ _ _ n0 n1 n2 m0 m1 m2 (xdot r01) (xdot r02) (xdot r12) (che_bits he) with ⟨h1, h2, h3⟩ | ⟨h1, h2, h3⟩ | ⟨h1, h2, h3⟩
  · have y := rows2 hf r00.1 r11.1 r00.2 r11.2 c00.2 c11.2 c22.2 h1 h2 h3
    exact Or.inl ⟨ev2_of h1, cg2_of h2 y⟩
  · have y0 : dY (V 3) (V 3) + dY (V 6) (V 6) + dY (V 0) (V 0) = 0 := by have := c00.2; omega
    have y1 : dY (V 4) (V 4) + dY (V 7) (V 7) + dY (V 1) (V 1) = 0 := by have := c11.2; omega
    have y2 : dY (V 5) (V 5) + dY (V 8) (V 8) + dY (V 2) (V 2) = 0 := by have := c22.2; omega
    have y := rows2 hf r11.1 r22.1 r11.2 r22.2 y0 y1 y2 h1 h2 h3
    exact Or.inr (Or.inl ⟨ev2_of h1, cg2_of h2 y⟩)
  · have y0 : dY (V 0) (V 0) + dY (V 6) (V 6) + dY (V 3) (V 3) = 0 := by have := c00.2; omega
    have y1 : dY (V 1) (V 1) + dY (V 7) (V 7) + dY (V 4) (V 4) = 0 := by have := c11.2; omega
    have y2 : dY (V 2) (V 2) + dY (V 8) (V 8) + dY (V 5) (V 5) = 0 := by have := c22.2; omega
    have y := rows2 hf r00.1 r22.1 r00.2 r22.2 y0 y1 y2 h1 h2 h3
    exact Or.inr (Or.inr ⟨ev2_of h1, cg2_of h2 y⟩)
