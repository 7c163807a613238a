/-! The nine numbers: columns and rows. -/
def dX (p q : Int × Int) : Int := p.1 * q.1 + 2 * (p.2 * q.2)
def dY (p q : Int × Int) : Int := p.1 * q.2 + p.2 * q.1
def orC (V : Nat → Int × Int) (m : Int) : Prop := ∀ j k, j < 3 → k < 3 → (dX (V j) (V k) + dX (V (3 + j)) (V (3 + k)) + dX (V (6 + j)) (V (6 + k)) = if j = k then m else 0) ∧ dY (V j) (V k) + dY (V (3 + j)) (V (3 + k)) + dY (V (6 + j)) (V (6 + k)) = 0
def orR (V : Nat → Int × Int) (m : Int) : Prop := ∀ i k, i < 3 → k < 3 → (dX (V (3 * i)) (V (3 * k)) + dX (V (3 * i + 1)) (V (3 * k + 1)) + dX (V (3 * i + 2)) (V (3 * k + 2)) = if i = k then m else 0) ∧ dY (V (3 * i)) (V (3 * k)) + dY (V (3 * i + 1)) (V (3 * k + 1)) + dY (V (3 * i + 2)) (V (3 * k + 2)) = 0
theorem ch_tr2 {S U : zq_F} (hs : zq_ctF S = S) (ts : zq_tr S = (0, 0, 0, 0)) (hu : zq_ctF U = U) (tu : zq_tr U = (0, 0, 0, 0)) : dX (chs S 0) (chs U 0) + dX (chs S 1) (chs U 1) + dX (chs S 2) (chs U 2) = 2 * (zq_tr (zq_pmF S U)).1 ∧ dY (chs S 0) (chs U 0) + dY (chs S 1) (chs U 1) + dY (chs S 2) (chs U 2) = 2 * (zq_tr (zq_pmF S U)).2.1 := by
  obtain ⟨⟨a, b, c, d⟩, ⟨e, f, g, h⟩, ⟨i, j, k, l⟩, ⟨m, n, o, p⟩⟩ := S
  obtain ⟨⟨a', b', c', d'⟩, ⟨e', f', g', h'⟩, ⟨i', j', k', l'⟩, ⟨m', n', o', p'⟩⟩ := U
  simp only [zq_ctF, zq_cj, zq_tr, zq_add, Prod.mk.injEq] at hs ts hu tu
  have q1 : d = -b := by omega
  have q2 : c = 0 := by omega
  have q3 : i = e := by omega
  have q4 : j = -h := by omega
  have q5 : k = -g := by omega
  have q6 : l = -f := by omega
  have q7 : m = -a := by omega
  have q8 : n = -b := by omega
  have q9 : o = 0 := by omega
  have q10 : p = b := by omega
  have r1 : d' = -b' := by omega
  have r2 : c' = 0 := by omega
  have r3 : i' = e' := by omega
  have r4 : j' = -h' := by omega
  have r5 : k' = -g' := by omega
  have r6 : l' = -f' := by omega
  have r7 : m' = -a' := by omega
  have r8 : n' = -b' := by omega
  have r9 : o' = 0 := by omega
  have r10 : p' = b' := by omega
  clear hs ts hu tu
  subst q1 q2 q3 q4 q5 q6 q7 q8 q9 q10 r1 r2 r3 r4 r5 r6 r7 r8 r9 r10
  simp only [dX, dY, chs, zq_tr, zq_pmF, zq_mul, zq_add, if_true, if_false, show ¬ (1 : Nat) = 0 by omega, show ¬ (2 : Nat) = 0 by omega, show ¬ (2 : Nat) = 1 by omega]
  constructor <;> grind
theorem sg_v : sg 0 = ((0, 0, 0, 0), (1, 0, 0, 0), (1, 0, 0, 0), (0, 0, 0, 0)) ∧ sg 1 = ((0, 0, 0, 0), (0, 0, -1, 0), (0, 0, 1, 0), (0, 0, 0, 0)) ∧ sg 2 = ((1, 0, 0, 0), (0, 0, 0, 0), (0, 0, 0, 0), (-1, 0, 0, 0)) := ⟨rfl, rfl, rfl⟩
theorem tr_sg (c : Int) {j k : Nat} (hj : j < 3) (hk : k < 3) : (zq_tr (zq_pmF (zq_pmF (zq_pmF ((c, 0, 0, 0), (0, 0, 0, 0), (0, 0, 0, 0), (c, 0, 0, 0)) (sg j)) ((c, 0, 0, 0), (0, 0, 0, 0), (0, 0, 0, 0), (c, 0, 0, 0))) (sg k))).1 = (if j = k then 2 * (c * c) else 0) ∧ (zq_tr (zq_pmF (zq_pmF (zq_pmF ((c, 0, 0, 0), (0, 0, 0, 0), (0, 0, 0, 0), (c, 0, 0, 0)) (sg j)) ((c, 0, 0, 0), (0, 0, 0, 0), (0, 0, 0, 0), (c, 0, 0, 0))) (sg k))).2.1 = 0 := by
  have h1 : j = 0 ∨ j = 1 ∨ j = 2 := by omega
  have h2 : k = 0 ∨ k = 1 ∨ k = 2 := by omega
  obtain ⟨v0, v1, v2⟩ := sg_v
  rcases h1 with rfl | rfl | rfl <;> rcases h2 with rfl | rfl | rfl <;> simp only [v0, v1, v2, zq_tr, zq_pmF, zq_mul, zq_add] <;> constructor <;> first | grind | (rw [if_neg (by omega)]; grind) | (rw [if_pos rfl]; grind)
theorem chS_tr {A : zq_T} (h : zq_ok A) {j k : Nat} (hj : j < 3) (hk : k < 3) : (zq_tr (zq_pmF (chS A.1 j) (chS A.1 k))).1 = (if j = k then 2 * ((2 : Int) ^ A.2 * 2 ^ A.2) else 0) ∧ (zq_tr (zq_pmF (chS A.1 j) (chS A.1 k))).2.1 = 0 := by
  have C := h.sq.2
  generalize (2 : Int) ^ A.2 = c at C ⊢
  unfold chS
  have e1 : zq_pmF (zq_pmF (zq_pmF A.1 (sg j)) (zq_ctF A.1)) (zq_pmF (zq_pmF A.1 (sg k)) (zq_ctF A.1)) = zq_pmF (zq_pmF (zq_pmF (zq_pmF A.1 (sg j)) (zq_pmF (zq_ctF A.1) A.1)) (sg k)) (zq_ctF A.1) := by
    simp only [zq_pmF_assoc]
  have e2 : zq_pmF (zq_ctF A.1) (zq_pmF (zq_pmF (zq_pmF A.1 (sg j)) (zq_pmF (zq_ctF A.1) A.1)) (sg k)) = zq_pmF (zq_pmF (zq_pmF (zq_pmF (zq_ctF A.1) A.1) (sg j)) (zq_pmF (zq_ctF A.1) A.1)) (sg k) := by
    simp only [zq_pmF_assoc]
  rw [e1, zq_tr_comm, e2, C]
  exact tr_sg c hj hk
theorem pow_22 (e : Nat) : (2 : Int) ^ (2 * e + 2) = 4 * (2 ^ e * 2 ^ e) := by
  rw [Int.pow_add, show 2 * e = e + e by omega, Int.pow_add]
  have : (2 : Int) ^ 2 = 4 := by decide
  rw [this, Int.mul_comm]
theorem orC_V {A : zq_T} (h : zq_ok A) : orC (chV A.1) (2 ^ (2 * A.2 + 2)) := by
  intro j k hj hk
  have a1 := chs_v h (show j < 9 by omega) (show j % 3 = j by omega)
  have a2 := chs_v h (show 3 + j < 9 by omega) (show (3 + j) % 3 = j by omega)
  have a3 := chs_v h (show 6 + j < 9 by omega) (show (6 + j) % 3 = j by omega)
  have b1 := chs_v h (show k < 9 by omega) (show k % 3 = k by omega)
  have b2 := chs_v h (show 3 + k < 9 by omega) (show (3 + k) % 3 = k by omega)
  have b3 := chs_v h (show 6 + k < 9 by omega) (show (6 + k) % 3 = k by omega)
  rw [show j / 3 = 0 by omega] at a1
  rw [show (3 + j) / 3 = 1 by omega] at a2
  rw [show (6 + j) / 3 = 2 by omega] at a3
  rw [show k / 3 = 0 by omega] at b1
  rw [show (3 + k) / 3 = 1 by omega] at b2
  rw [show (6 + k) / 3 = 2 by omega] at b3
  rw [← a1, ← a2, ← a3, ← b1, ← b2, ← b3]
  have t := ch_tr2 (chS_h A.1 j) (chS_t h j) (chS_h A.1 k) (chS_t h k)
  have u := chS_tr h hj hk
  rw [t.1, t.2, u.1, u.2, pow_22]
  refine ⟨?_, by omega⟩
  split
  · omega
  · omega
theorem chV_ct (A : zq_F) {i j : Nat} (hi : i < 3) (hj : j < 3) : chV (zq_ctF A) (3 * j + i) = chV A (3 * i + j) := by
  have key : chN (zq_ctF A) j i = chN A i j := by
    rw [← chN_ref, ← chN_ref, zq_ctF_ct]
    have e1 : zq_pmF (zq_pmF (zq_pmF (sg j) (zq_ctF A)) (sg i)) A = zq_pmF (zq_pmF (sg j) (zq_ctF A)) (zq_pmF (sg i) A) := by simp only [zq_pmF_assoc]
    have e2 : zq_pmF (zq_pmF (zq_pmF (sg i) A) (sg j)) (zq_ctF A) = zq_pmF (zq_pmF (sg i) A) (zq_pmF (sg j) (zq_ctF A)) := by simp only [zq_pmF_assoc]
    rw [e1, e2, zq_tr_comm]
  unfold chV
  rw [show (3 * j + i) / 3 = j by omega, show (3 * j + i) % 3 = i by omega, show (3 * i + j) / 3 = i by omega, show (3 * i + j) % 3 = j by omega, key]
theorem orR_V {A : zq_T} (h : zq_ok A) : orR (chV A.1) (2 ^ (2 * A.2 + 2)) := by
  intro i k hi hk
  have o := orC_V h.ct i k hi hk
  have a1 := chV_ct A.1 hi (show 0 < 3 by omega)
  have a2 := chV_ct A.1 hi (show 1 < 3 by omega)
  have a3 := chV_ct A.1 hi (show 2 < 3 by omega)
  have b1 := chV_ct A.1 hk (show 0 < 3 by omega)
  have b2 := chV_ct A.1 hk (show 1 < 3 by omega)
  have b3 := chV_ct A.1 hk (show 2 < 3 by omega)
  rw [show 3 * 0 + i = i by omega, show 3 * i + 0 = 3 * i by omega] at a1
  rw [show 3 * 0 + k = k by omega, show 3 * k + 0 = 3 * k by omega] at b1
  have e : (zq_ct A).1 = zq_ctF A.1 := rfl
  have e2 : (zq_ct A).2 = A.2 := rfl
  rw [e, e2, show 3 + i = 3 * 1 + i by omega, show 6 + i = 3 * 2 + i by omega, show 3 + k = 3 * 1 + k by omega, show 6 + k = 3 * 2 + k by omega, a1, a2, a3, b1, b2, b3] at o
  exact o
theorem d_half {p q : Int × Int} (hp : p.1 % 2 = 0) (hq : q.1 % 2 = 0) : dX p q = 2 * dX (p.2, p.1 / 2) (q.2, q.1 / 2) ∧ dY p q = 2 * dY (p.2, p.1 / 2) (q.2, q.1 / 2) := by
  obtain ⟨x, y⟩ := p
  obtain ⟨u, v⟩ := q
  have e1 : x = 2 * (x / 2) := by dsimp only at hp; omega
  have e2 : u = 2 * (u / 2) := by dsimp only at hq; omega
  generalize x / 2 = a at e1
  generalize u / 2 = b at e2
  subst e1 e2
  simp only [dX, dY]
  constructor <;> grind
theorem orC_d {V : Nat → Int × Int} {m : Int} (h : orC V (2 * m)) (he : che V 9 = true) : orC (chd V) m := by
  have ev := (che_iff V 9).mp he
  intro j k hj hk
  obtain ⟨o1, o2⟩ := h j k hj hk
  have a1 := d_half (ev j (by omega)) (ev k (by omega))
  have a2 := d_half (ev (3 + j) (by omega)) (ev (3 + k) (by omega))
  have a3 := d_half (ev (6 + j) (by omega)) (ev (6 + k) (by omega))
  unfold chd
  rw [a1.1, a2.1, a3.1] at o1
  rw [a1.2, a2.2, a3.2] at o2
  refine ⟨?_, by omega⟩
  split at o1
  · rename_i c
    rw [if_pos c]
    omega
  · rename_i c
    rw [if_neg c]
    omega
theorem orR_d {V : Nat → Int × Int} {m : Int} (h : orR V (2 * m)) (he : che V 9 = true) : orR (chd V) m := by
  have ev := (che_iff V 9).mp he
  intro j k hj hk
  obtain ⟨o1, o2⟩ := h j k hj hk
  have a1 := d_half (ev (3 * j) (by omega)) (ev (3 * k) (by omega))
  have a2 := d_half (ev (3 * j + 1) (by omega)) (ev (3 * k + 1) (by omega))
  have a3 := d_half (ev (3 * j + 2) (by omega)) (ev (3 * k + 2) (by omega))
  unfold chd
  rw [a1.1, a2.1, a3.1] at o1
  rw [a1.2, a2.2, a3.2] at o2
  refine ⟨?_, by omega⟩
  split at o1
  · rename_i c
    rw [if_pos c]
    omega
  · rename_i c
    rw [if_neg c]
    omega
theorem or_l : ∀ (f : Nat) (V : Nat → Int × Int), orC V (2 ^ f) → orR V (2 ^ f) → orC (chl f V).1 (2 ^ (chl f V).2) ∧ orR (chl f V).1 (2 ^ (chl f V).2)
  | 0, V, h1, h2 => ⟨h1, h2⟩
  | f + 1, V, h1, h2 => by
    unfold chl
    by_cases c : che V 9 = true
    · rw [if_pos c]
      rw [Int.pow_succ, Int.mul_comm] at h1 h2
      exact or_l f (chd V) (orC_d h1 c) (orR_d h2 c)
    · rw [if_neg c]
      exact ⟨h1, h2⟩
theorem or_A {A : zq_T} (h : zq_ok A) : orC (chA A).1 (2 ^ (chA A).2) ∧ orR (chA A).1 (2 ^ (chA A).2) := or_l _ _ (orC_V h) (orR_V h)
theorem chl_low : ∀ (f : Nat) (V : Nat → Int × Int), (chl f V).2 = 0 ∨ che (chl f V).1 9 = false
  | 0, V => Or.inl rfl
  | f + 1, V => by
    unfold chl
    by_cases c : che V 9 = true
    · rw [if_pos c]
      exact chl_low f _
    · rw [if_neg c]
      exact Or.inr (by rwa [Bool.not_eq_true] at c)
