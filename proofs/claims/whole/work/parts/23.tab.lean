/-! The class's tables: what each method does to the sixteen longs. -/
def zu (F : Nat → Int64) (j : Nat) (v : Int64) : Nat → Int64 := fun i => if i = j then v else F i
def zf (M : qv_Mem) (p : Nat) (F : Nat → Int64) : qv_Mem := (M.1, fun a j => if a = p then F j else M.2.1 a j, M.2.2)
theorem zf_self (M : qv_Mem) (p : Nat) : zf M p (M.2.1 p) = M := by
  unfold zf
  apply Prod.ext
  · rfl
  · apply Prod.ext
    · funext a j
      show (if a = p then M.2.1 p j else M.2.1 a j) = _
      split
      · rename_i h; rw [h]
      · rfl
    · rfl
theorem zf_at (M : qv_Mem) (p : Nat) (F : Nat → Int64) (j : Nat) : (zf M p F).2.1 p j = F j := by simp [zf]
theorem zf_ne {M : qv_Mem} {p a : Nat} {F : Nat → Int64} (h : a ≠ p) (j : Nat) : (zf M p F).2.1 a j = M.2.1 a j := by simp [zf, h]
theorem zf_up (M : qv_Mem) (p : Nat) (F : Nat → Int64) (j : Nat) (v : Int64) : qv_upL (zf M p F) p j v = zf M p (zu F j v) := by
  unfold qv_upL zf zu
  simp only [Prod.mk.injEq, true_and, and_true]
  funext a b
  by_cases ha : a = p
  · by_cases hb : b = j
    · simp [ha, hb]
    · simp [ha, hb]
  · simp [ha]
theorem zf_zf (M : qv_Mem) (p : Nat) (F F2 : Nat → Int64) : zf (zf M p F) p F2 = zf M p F2 := by
  unfold zf
  simp only [Prod.mk.injEq, true_and, and_true]
  funext a j
  by_cases h : a = p
  · simp [h]
  · simp [h]
theorem zf_S (M : qv_Mem) (p : Nat) (F : Nat → Int64) (id k : Nat) (v : Int32) : qv_upS (zf M p F) id k v = zf (qv_upS M id k v) p F := rfl
theorem zf_s (M : qv_Mem) (p : Nat) (F : Nat → Int64) : (zf M p F).2.2 = M.2.2 := rfl
theorem zf_i (M : qv_Mem) (p : Nat) (F : Nat → Int64) : (zf M p F).1 = M.1 := rfl
theorem zi_0 : (0 : Int32) = nI 0 := id rfl
def z_as (F : Nat → Int64) (a b n : Nat) : Nat → Int64 := fun j => if a ≤ j ∧ j < a + n then F j + F (j - a + b) else if b ≤ j ∧ j < b + n then F (j - b + a) - F j else F j
theorem z_addAndSubtract {T : List qv_Ent} {t p : Nat} (hp : qv_rf T t 0 = p) (M : qv_Mem) (F : Nat → Int64) {a b : Nat} (ha : a + 4 ≤ 16) (hb : b + 4 ≤ 16) (hab : a + 4 ≤ b) : f_X7_addAndSubtract T t (nI a) (nI b) (zf M p F) = some (zf M p (z_as F a b 4)) := by
  unfold f_X7_addAndSubtract qv_jn
  have e0 : zf M p F = zf M p (z_as F a b 0) := by
    congr 1
    funext j
    simp only [z_as]
    rw [if_neg (by omega), if_neg (by omega)]
  rw [e0, zi_0]
  refine zfor2 (s := fun i => zf M p (z_as F a b i)) (k := fun M1 => some M1) 0 4 (by omega) (fun i r h0 hi => ?_) (fun r => ?_) qv_N (qv_N_gt _ (by decide))
  · simp (disch := omega) only [b_X7_addAndSubtract_2, hp, zi_lit, nI_add, zi_le, zi_ldL, zi_stL, zf_at, zf_up]
    rw [if_neg (by omega)]
    congr 2
    funext j
    simp only [zu, z_as]
    grind
  · simp (disch := omega) only [b_X7_addAndSubtract_2, zi_lit, zi_le]
    rw [if_pos (by omega)]
def z_ro (F : Nat → Int64) (a : Nat) : Nat → Int64 := fun j => if j = a then -F (a + 3) else if a < j ∧ j < a + 4 then F (j - 1) else F j
def z_rn (F : Nat → Int64) (a : Nat) : Nat → Nat → Int64
  | 0 => F
  | n + 1 => z_ro (z_rn F a n) a
theorem z_rotate {T : List qv_Ent} {t p : Nat} (hp : qv_rf T t 0 = p) (M : qv_Mem) (F : Nat → Int64) {a n : Nat} (ha : a + 4 ≤ 16) (hn : n < 100) : f_X7_rotate T t (nI a) (nI n) (zf M p F) = some (zf M p (z_rn F a n)) := by
  unfold f_X7_rotate qv_jn
  rw [zi_0]
  refine zfor2 (s := fun i => zf M p (z_rn F a i)) (k := fun M1 => some M1) 0 n (by omega) (fun i r h0 hi => ?_) (fun r => ?_) qv_N (qv_N_gt _ (by omega))
  · simp (disch := omega) only [b_X7_rotate_2, hp, zi_lit, nI_add, zi_le, zi_ldL, zi_stL, zf_at, zf_up]
    rw [if_neg (by omega)]
    congr 2
    funext j
    simp only [zu, z_rn, z_ro]
    grind
  · simp (disch := omega) only [b_X7_rotate_2, zi_lit, zi_le]
    rw [if_pos (by omega)]
def z_ex (F : Nat → Int64) (a b n : Nat) : Nat → Int64 := fun j => if a ≤ j ∧ j < a + n then F (j - a + b) else if b ≤ j ∧ j < b + n then F (j - b + a) else F j
theorem z_exchange {T : List qv_Ent} {t p : Nat} (hp : qv_rf T t 0 = p) (M : qv_Mem) (F : Nat → Int64) {a b : Nat} (ha : a + 4 ≤ 16) (hb : b + 4 ≤ 16) (hab : a + 4 ≤ b) : f_X7_exchange T t (nI a) (nI b) (zf M p F) = some (zf M p (z_ex F a b 4)) := by
  unfold f_X7_exchange qv_jn
  have e0 : zf M p F = zf M p (z_ex F a b 0) := by
    congr 1
    funext j
    simp only [z_ex]
    rw [if_neg (by omega), if_neg (by omega)]
  rw [e0, zi_0]
  refine zfor2 (s := fun i => zf M p (z_ex F a b i)) (k := fun M1 => some M1) 0 4 (by omega) (fun i r h0 hi => ?_) (fun r => ?_) qv_N (qv_N_gt _ (by decide))
  · simp (disch := omega) only [b_X7_exchange_2, hp, zi_lit, nI_add, zi_le, zi_ldL, zi_stL, zf_at, zf_up]
    rw [if_neg (by omega)]
    congr 2
    funext j
    simp only [zu, z_ex]
    grind
  · simp (disch := omega) only [b_X7_exchange_2, zi_lit, zi_le]
    rw [if_pos (by omega)]
def z_cl (F : Nat → Int64) (n : Nat) : Nat → Int64 := fun j => if j < n then 0 else F j
theorem z_clearParts {T : List qv_Ent} {t p : Nat} (hp : qv_rf T t 0 = p) (M : qv_Mem) (F : Nat → Int64) : f_X7_clearParts T t (zf M p F) = some (zf M p (z_cl F 16)) := by
  unfold f_X7_clearParts qv_jn
  have e0 : zf M p F = zf M p (z_cl F 0) := by
    congr 1
  rw [e0, zi_0]
  refine zfor2 (s := fun i => zf M p (z_cl F i)) (k := fun M1 => some M1) 0 16 (by omega) (fun i r h0 hi => ?_) (fun r => ?_) qv_N (qv_N_gt _ (by decide))
  · simp (disch := omega) only [b_X7_clearParts_2, hp, zi_lit, nI_add, zi_le, zi_ldL, zi_stL, zf_at, zf_up]
    rw [if_neg (by omega)]
    congr 2
    funext j
    simp only [zu, z_cl]
    grind
  · simp (disch := omega) only [b_X7_clearParts_2, zi_lit, zi_le]
    rw [if_pos (by omega)]
def z_pair (g a b : Nat) (F : Nat → Int64) : Nat → Int64 :=
  if g = 0 then z_as F a b 4 else if g = 1 then z_rn F b 1 else if g = 2 then z_rn F b 2 else if g = 3 then z_ex F a b 4 else if g = 4 then z_rn F b 4 else if g = 5 then z_rn (z_rn F a 1) b 1 else z_rn F b 7
theorem z_applyToPair {T : List qv_Ent} {t p : Nat} (hp : qv_rf T t 0 = p) (M : qv_Mem) (F : Nat → Int64) {g a b : Nat} (hg : g < 7) (ha : a + 4 ≤ 16) (hb : b + 4 ≤ 16) (hab : a + 4 ≤ b) : f_X7_applyToPair T t (nI g) (nI a) (nI b) (zf M p F) = some (zf M p (z_pair g a b F)) := by
  unfold f_X7_applyToPair
  match g, hg with
  | 0, _ => simp (disch := omega) only [zi_lit, zi_eq, if_true, z_addAndSubtract hp M F ha hb hab, qv_bo, z_pair]
  | 1, _ => simp (disch := omega) only [zi_lit, zi_eq, if_true, if_false, z_rotate hp M F hb (n := 1) (by omega), qv_bo, z_pair, Nat.one_ne_zero]
  | 2, _ => simp (disch := omega) [zi_lit, zi_eq, z_rotate hp M F hb (n := 2) (by omega), qv_bo, z_pair]
  | 3, _ => simp (disch := omega) [zi_lit, zi_eq, z_exchange hp M F ha hb hab, qv_bo, z_pair]
  | 4, _ => simp (disch := omega) [zi_lit, zi_eq, z_rotate hp M F hb (n := 4) (by omega), qv_bo, z_pair]
  | 5, _ => simp (disch := omega) [zi_lit, zi_eq, z_rotate hp M F ha (n := 1) (by omega), z_rotate hp M (z_rn F a 1) hb (n := 1) (by omega), qv_bo, z_pair]
  | 6, _ => simp (disch := omega) [zi_lit, zi_eq, z_rotate hp M F hb (n := 7) (by omega), qv_bo, z_pair]
  | g + 7, h => omega
theorem z_placeOf (a b : Nat) : f_X7_placeOf (nI a) (nI b) = some (nI ((a * 2 + b) * 4)) := by
  simp only [f_X7_placeOf, zi_lit, pk_mul, nI_add]
