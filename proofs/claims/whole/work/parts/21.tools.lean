/-! Tools for the pure functions: small numbers, arrays as lists, loops. -/
theorem zi_lit (n : Nat) : (OfNat.ofNat n : Int32) = nI n := id rfl
theorem zi_in {i n : Nat} (h : i < n) (hi : i < 2147483648) : qv_inb (nI i) n = true := by
  have h1 : ¬ nI i < 0 := nI_pos hi
  have h2 : (nI i).toNatClampNeg = i := nI_clamp hi
  simp [qv_inb, h1, h2, h]
theorem zi_ldI {α : Type} {n id i : Nat} {M : qv_Mem} {k : Int32 → Option α} (h : i < n) (hn : n ≤ 100000) : qv_ldI n id (nI i) M k = k (M.1 id i) := by
  unfold qv_ldI
  rw [if_pos (zi_in h (by omega)), nI_clamp (by omega)]
theorem zi_ldL {α : Type} {n id i : Nat} {M : qv_Mem} {k : Int64 → Option α} (h : i < n) (hn : n ≤ 100000) : qv_ldL n id (nI i) M k = k (M.2.1 id i) := by
  unfold qv_ldL
  rw [if_pos (zi_in h (by omega)), nI_clamp (by omega)]
theorem zi_stI {α : Type} {n id i : Nat} {M : qv_Mem} {v : Int32} {k : qv_Mem → Option α} (h : i < n) (hn : n ≤ 100000) : qv_stI n id (nI i) v M k = k (qv_upI M id i v) := by
  unfold qv_stI
  rw [if_pos (zi_in h (by omega)), nI_clamp (by omega)]
theorem zi_stL {α : Type} {n id i : Nat} {M : qv_Mem} {v : Int64} {k : qv_Mem → Option α} (h : i < n) (hn : n ≤ 100000) : qv_stL n id (nI i) v M k = k (qv_upL M id i v) := by
  unfold qv_stL
  rw [if_pos (zi_in h (by omega)), nI_clamp (by omega)]
/-- the array p of longs is a list, as far as it goes -/
def zl (M : qv_Mem) (p : Nat) (l : List Int64) : qv_Mem := (M.1, fun a j => if a = p ∧ j < l.length then l.getD j 0 else M.2.1 a j, M.2.2)
theorem zl_at {M : qv_Mem} {p : Nat} {l : List Int64} {j : Nat} (h : j < l.length) : (zl M p l).2.1 p j = l.getD j 0 := by simp [zl, h]
theorem zl_ne {M : qv_Mem} {p a : Nat} {l : List Int64} (h : a ≠ p) : (zl M p l).2.1 a = M.2.1 a := by funext j; simp [zl, h]
theorem zl_up {M : qv_Mem} {p : Nat} {l : List Int64} {j : Nat} {v : Int64} (h : j < l.length) : qv_upL (zl M p l) p j v = zl M p (l.set j v) := by
  unfold qv_upL zl
  simp only [Prod.mk.injEq, true_and, and_true]
  funext a b
  by_cases ha : a = p
  · subst ha
    by_cases hb : b = j
    · subst hb
      simp [h]
    · by_cases hl : b < l.length
      · have e : (l.set j v).getD b 0 = l.getD b 0 := by rw [List.getD_eq_getElem?_getD, List.getElem?_set_ne (Ne.symm hb), ← List.getD_eq_getElem?_getD]
        simp only [List.length_set, hl, and_self, if_true, hb, and_false, if_false, e]
      · simp [hb, hl]
  · simp [ha]
theorem zl_self (M : qv_Mem) (p : Nat) (n : Nat) : zl M p ((List.range n).map (M.2.1 p)) = M := by
  unfold zl
  apply Prod.ext
  · rfl
  · apply Prod.ext
    · funext a j
      by_cases h : a = p ∧ j < ((List.range n).map (M.2.1 p)).length
      · have h2 : j < n := by simpa using h.2
        show (if _ then _ else _) = _
        rw [if_pos h, List.getD_eq_getElem?_getD]
        simp [h2, h.1]
      · show (if _ then _ else _) = _
        rw [if_neg h]
    · rfl
theorem zl_zl {M : qv_Mem} {p : Nat} {l l2 : List Int64} (h : l.length = l2.length) : zl (zl M p l) p l2 = zl M p l2 := by
  unfold zl
  simp only [Prod.mk.injEq, true_and, and_true]
  funext a j
  by_cases hj : a = p ∧ j < l2.length
  · rw [if_pos hj, if_pos hj]
  · rw [if_neg hj, if_neg hj, if_neg (by rw [h]; exact hj)]
theorem zl_S {M : qv_Mem} {p : Nat} {l : List Int64} (id k : Nat) (v : Int32) : qv_upS (zl M p l) id k v = zl (qv_upS M id k v) p l := rfl
theorem zs_at (M : qv_Mem) (id k : Nat) (v : Int32) : (qv_upS M id k v).2.2 id k = v := by simp [qv_upS]
theorem zs_ne {M : qv_Mem} {id k a : Nat} {v : Int32} (h : a ≠ id) : (qv_upS M id k v).2.2 a = M.2.2 a := by funext j; simp [qv_upS, h]
theorem zs_ne2 {M : qv_Mem} {id k a j : Nat} {v : Int32} (h : ¬ (a = id ∧ j = k)) : (qv_upS M id k v).2.2 a j = M.2.2 a j := by simp [qv_upS, h]
theorem zs_self (M : qv_Mem) (id k : Nat) : qv_upS M id k (M.2.2 id k) = M := by
  unfold qv_upS
  apply Prod.ext
  · rfl
  · apply Prod.ext
    · rfl
    · funext a j
      by_cases h : a = id ∧ j = k
      · show (if _ then _ else _) = _
        rw [if_pos h, h.1, h.2]
      · show (if _ then _ else _) = _
        rw [if_neg h]
theorem zs_zs (M : qv_Mem) (id k : Nat) (v w : Int32) : qv_upS (qv_upS M id k v) id k w = qv_upS M id k w := by
  unfold qv_upS
  simp only [Prod.mk.injEq, true_and]
  funext a j
  by_cases h : a = id ∧ j = k
  · rw [if_pos h, if_pos h]
  · rw [if_neg h, if_neg h, if_neg h]
/-- loops: a measure that falls -/
theorem qv_W1 {A1 α : Type} {b : (A1 → Option α) → A1 → Option α} (P : Nat → A1 → Prop) (R : Option α → Prop) (hs : ∀ n a1 (r : A1 → Option α), P n a1 → R (b r a1) ∨ ∃ m c1, m < n ∧ P m c1 ∧ b r a1 = r c1) : ∀ (f n : Nat) (a1 : A1), P n a1 → n < f → R (qv_lp1 b f a1) := by
  intro f
  induction f with
  | zero => intro n a1 _ h; omega
  | succ f ih =>
    intro n a1 hP hn
    rcases hs n a1 (qv_lp1 b f) hP with h | ⟨m, c1, h1, h2, h3⟩
    · exact h
    · show R (b (qv_lp1 b f) a1)
      rw [h3]
      exact ih m c1 h2 (by omega)
theorem qv_W2 {A1 A2 α : Type} {b : (A1 → A2 → Option α) → A1 → A2 → Option α} (P : Nat → A1 → A2 → Prop) (R : Option α → Prop) (hs : ∀ n a1 a2 (r : A1 → A2 → Option α), P n a1 a2 → R (b r a1 a2) ∨ ∃ m c1 c2, m < n ∧ P m c1 c2 ∧ b r a1 a2 = r c1 c2) : ∀ (f n : Nat) (a1 : A1) (a2 : A2), P n a1 a2 → n < f → R (qv_lp2 b f a1 a2) := by
  intro f
  induction f with
  | zero => intro n a1 a2 _ h; omega
  | succ f ih =>
    intro n a1 a2 hP hn
    rcases hs n a1 a2 (qv_lp2 b f) hP with h | ⟨m, c1, c2, h1, h2, h3⟩
    · exact h
    · show R (b (qv_lp2 b f) a1 a2)
      rw [h3]
      exact ih m c1 c2 h2 (by omega)
theorem qv_W3 {A1 A2 A3 α : Type} {b : (A1 → A2 → A3 → Option α) → A1 → A2 → A3 → Option α} (P : Nat → A1 → A2 → A3 → Prop) (R : Option α → Prop) (hs : ∀ n a1 a2 a3 (r : A1 → A2 → A3 → Option α), P n a1 a2 a3 → R (b r a1 a2 a3) ∨ ∃ m c1 c2 c3, m < n ∧ P m c1 c2 c3 ∧ b r a1 a2 a3 = r c1 c2 c3) : ∀ (f n : Nat) (a1 : A1) (a2 : A2) (a3 : A3), P n a1 a2 a3 → n < f → R (qv_lp3 b f a1 a2 a3) := by
  intro f
  induction f with
  | zero => intro n a1 a2 a3 _ h; omega
  | succ f ih =>
    intro n a1 a2 a3 hP hn
    rcases hs n a1 a2 a3 (qv_lp3 b f) hP with h | ⟨m, c1, c2, c3, h1, h2, h3⟩
    · exact h
    · show R (b (qv_lp3 b f) a1 a2 a3)
      rw [h3]
      exact ih m c1 c2 c3 h2 (by omega)
theorem zN1 {A1 α : Type} (b : (A1 → Option α) → A1 → Option α) (n : Nat) (a1 : A1) : qv_lp1 b (n + 1) a1 = b (qv_lp1 b n) a1 := id rfl
theorem zN2 {A1 A2 α : Type} (b : (A1 → A2 → Option α) → A1 → A2 → Option α) (n : Nat) (a1 : A1) (a2 : A2) : qv_lp2 b (n + 1) a1 a2 = b (qv_lp2 b n) a1 a2 := id rfl
/-- a loop whose counter goes one by one, exactly: what is done at each place is told -/
theorem zfor2 {α : Type} {b : (Int32 → qv_Mem → Option α) → Int32 → qv_Mem → Option α} {k : qv_Mem → Option α} (s : Nat → qv_Mem) (i0 e : Nat) (hie : i0 ≤ e) (hb : ∀ i r, i0 ≤ i → i < e → b r (nI i) (s i) = r (nI (i + 1)) (s (i + 1))) (he : ∀ r, b r (nI e) (s e) = k (s e)) (f : Nat) (hf : e - i0 < f) : qv_lp2 b f (nI i0) (s i0) = k (s e) := by
  have h : ∀ (f i : Nat), i0 ≤ i → i ≤ e → e - i < f → qv_lp2 b f (nI i) (s i) = k (s e) := by
    intro f
    induction f with
    | zero => intro i _ _ h; omega
    | succ f ih =>
      intro i h0 h1 h2
      rw [zN2]
      by_cases h : i < e
      · rw [hb i _ h0 h]
        exact ih (i + 1) (by omega) (by omega) (by omega)
      · have : i = e := by omega
        subst this
        exact he _
  exact h f i0 (Nat.le_refl _) hie hf
theorem zi_le {a b : Nat} (ha : a < 2147483648) (hb : b < 2147483648) : (nI a ≤ nI b) = (a ≤ b) := propext (nI_leI ha hb)
theorem zi_lt {a b : Nat} (ha : a < 2147483648) (hb : b < 2147483648) : (nI a < nI b) = (a < b) := propext (nI_ltI ha hb)
theorem zi_eq {a b : Nat} (ha : a < 2147483648) (hb : b < 2147483648) : (nI a = nI b) = (a = b) := propext (nI_eq ha hb)
theorem zi_cl {a : Nat} (ha : a < 2147483648) : (nI a).toNatClampNeg = a := nI_clamp ha
