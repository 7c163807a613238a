/-! The 192: facts. -/
def ek (F : Nat → Int) (e : Nat) : Nat → Nat
  | 0 => e
  | i + 1 => ek F e i * 3 + (F i + 1).toNat
def zkv (A : zq_T) : Nat → Nat := ek (zc A.1) A.2
def gg (i : Nat) : Nat := if i = 0 then 0 else if i = 1 then 2 else 5
def inr1 (A : zq_F) : Bool := (List.range 16).all (fun j => decide (-1 ≤ zc A j) && decide (zc A j ≤ 1))
theorem cl_key_c : (List.range 192).all (fun k => decide (zkv (CL k) 16 = key k) && (inr1 (CL k).1 && decide ((CL k).2 ≤ 1))) = true := by decide +kernel
theorem cl_nd_c : (List.range 192).all (fun i => (List.range i).all (fun j => decide (key i ≠ key j))) = true := by decide +kernel
theorem cl_z_c : (List.range 192).all (fun k => pgs.all (fun g => decide (beh k g = 0) == decide (k = lef 0 g))) = true := by decide +kernel
theorem cl_xz_c : (List.range 192).all (fun k => decide (beh k 4 = beh (beh k 2) 2) && decide (beh k 3 = beh (beh (beh k 0) 4) 0)) = true := by decide +kernel
theorem cl_w_c : (List.range 191).all (fun k => pgs.all (fun g => decide (lef (k + 1) g = beh (lef (par (k + 1)) g) (pgt (k + 1)))) && (decide (par (k + 1) < k + 1) && (pgs.contains (pgt (k + 1)) && decide (beh (par (k + 1)) (pgt (k + 1)) = k + 1)))) = true := by decide +kernel
theorem cl_s_c : (List.range 576).all (fun s => decide (cnt s ≤ 192) && (decide (s / 3 < cnt s) && ((decide (beh (s / 3) (gg (s % 3)) < cnt s) && decide (cnt (s + 1) = cnt s)) || (decide (beh (s / 3) (gg (s % 3)) = cnt s) && (decide (cnt (s + 1) = cnt s + 1) && (decide (par (cnt s) = s / 3) && decide (pgt (cnt s) = gg (s % 3)))))))) = true := by decide +kernel
theorem cl_0 : CL 0 = zq_one := eqT_eq (by decide +kernel)
theorem cnt_0 : cnt 0 = 1 := by decide +kernel
theorem cnt_576 : cnt 576 = 192 := by decide +kernel
theorem pgs_lt {g : Nat} (h : g ∈ pgs) : g < 7 := by
  unfold pgs at h
  simp at h
  omega
theorem rg {n k : Nat} (h : k < n) : k ∈ List.range n := List.mem_range.mpr h
theorem cl_beh {k g : Nat} (hk : k < 192) (hg : g ∈ pgs) : zq_lm (CL k) (zq_gt g) = CL (beh k g) ∧ beh k g < 192 := by
  have h := List.all_eq_true.mp (List.all_eq_true.mp cl_beh_c k (rg hk)) g hg
  rw [Bool.and_eq_true, decide_eq_true_eq] at h
  exact ⟨eqT_eq h.1, h.2⟩
theorem cl_lef {k g : Nat} (hk : k < 192) (hg : g ∈ pgs) : zq_lm (zq_ct (zq_gt g)) (CL k) = CL (lef k g) ∧ lef k g < 192 := by
  have h := List.all_eq_true.mp (List.all_eq_true.mp cl_lef_c k (rg hk)) g hg
  rw [Bool.and_eq_true, decide_eq_true_eq] at h
  exact ⟨eqT_eq h.1, h.2⟩
theorem inr1_iff (A : zq_F) : inr1 A = true ↔ ∀ j, j < 16 → -1 ≤ zc A j ∧ zc A j ≤ 1 := by
  unfold inr1
  rw [List.all_eq_true]
  constructor
  · intro h j hj
    have := h j (rg hj)
    rw [Bool.and_eq_true, decide_eq_true_eq, decide_eq_true_eq] at this
    exact this
  · intro h j hj
    rw [Bool.and_eq_true, decide_eq_true_eq, decide_eq_true_eq]
    exact h j (List.mem_range.mp hj)
theorem cl_key {k : Nat} (hk : k < 192) : zkv (CL k) 16 = key k ∧ inr1 (CL k).1 = true ∧ (CL k).2 ≤ 1 := by
  have h := List.all_eq_true.mp cl_key_c k (rg hk)
  rw [Bool.and_eq_true, Bool.and_eq_true, decide_eq_true_eq, decide_eq_true_eq] at h
  exact h
theorem cl_nd {i j : Nat} (hi : i < 192) (hj : j < 192) (h : key i = key j) : i = j := by
  have key1 : ∀ i j, i < 192 → j < i → key i ≠ key j := fun i j hi hj => by
    have := List.all_eq_true.mp (List.all_eq_true.mp cl_nd_c i (rg hi)) j (rg hj)
    rw [decide_eq_true_eq] at this
    exact this
  by_cases c : i = j
  · exact c
  · by_cases d : j < i
    · exact absurd h (key1 i j hi d)
    · exact absurd h.symm (key1 j i hj (by omega))
theorem cl_inj {i j : Nat} (hi : i < 192) (hj : j < 192) (h : CL i = CL j) : i = j := by
  apply cl_nd hi hj
  rw [← (cl_key hi).1, ← (cl_key hj).1, h]
theorem cl_z {k g : Nat} (hk : k < 192) (hg : g ∈ pgs) : beh k g = 0 ↔ k = lef 0 g := by
  have h := List.all_eq_true.mp (List.all_eq_true.mp cl_z_c k (rg hk)) g hg
  have h2 := eq_of_beq h
  constructor
  · intro q
    rw [decide_eq_true q] at h2
    exact of_decide_eq_true h2.symm
  · intro q
    rw [decide_eq_true q] at h2
    exact of_decide_eq_true h2
theorem cl_xz {k : Nat} (hk : k < 192) : beh k 4 = beh (beh k 2) 2 ∧ beh k 3 = beh (beh (beh k 0) 4) 0 := by
  have h := List.all_eq_true.mp cl_xz_c k (rg hk)
  rw [Bool.and_eq_true, decide_eq_true_eq, decide_eq_true_eq] at h
  exact h
theorem cl_w {k : Nat} (hk : k < 192) (h0 : 0 < k) : (∀ g ∈ pgs, lef k g = beh (lef (par k) g) (pgt k)) ∧ par k < k ∧ pgt k ∈ pgs ∧ beh (par k) (pgt k) = k := by
  have h := List.all_eq_true.mp cl_w_c (k - 1) (rg (show k - 1 < 191 by omega))
  rw [show k - 1 + 1 = k by omega] at h
  rw [Bool.and_eq_true, Bool.and_eq_true, Bool.and_eq_true, decide_eq_true_eq, decide_eq_true_eq] at h
  refine ⟨fun g hg => ?_, h.2.1, ?_, h.2.2.2⟩
  · have := List.all_eq_true.mp h.1 g hg
    rw [decide_eq_true_eq] at this
    exact this
  · exact List.contains_iff_mem.mp h.2.2.1
theorem cl_s {s : Nat} (hs : s < 576) : cnt s ≤ 192 ∧ s / 3 < cnt s ∧ ((beh (s / 3) (gg (s % 3)) < cnt s ∧ cnt (s + 1) = cnt s) ∨ (beh (s / 3) (gg (s % 3)) = cnt s ∧ cnt (s + 1) = cnt s + 1 ∧ par (cnt s) = s / 3 ∧ pgt (cnt s) = gg (s % 3))) := by
  have h := List.all_eq_true.mp cl_s_c s (rg hs)
  simp only [Bool.and_eq_true, Bool.or_eq_true, decide_eq_true_eq] at h
  exact h
theorem cl_ok : ∀ k, k < 192 → zq_ok (CL k) := by
  intro k
  induction k using Nat.strongRecOn with
  | ind k ih =>
    intro hk
    by_cases h0 : k = 0
    · rw [h0, cl_0]; exact zq_ok.one
    · obtain ⟨-, h1, h2, h3⟩ := cl_w hk (by omega)
      have := (ih (par k) h1 (by omega)).mul (zq_ok.gt1 (pgs_lt h2))
      rw [(cl_beh (show par k < 192 by omega) h2).1, h3] at this
      exact this
theorem cl_b {k : Nat} (hk : k < 192) : zb (CL k).1 2 := (cl_ok k hk).bd 1 (by have := (cl_key hk).2.2; omega)
theorem ek_lt {F : Nat → Int} {e : Nat} (he : e ≤ 1) : ∀ i, (∀ j, j < i → -1 ≤ F j ∧ F j ≤ 1) → ek F e i < 2 * 3 ^ i
  | 0, _ => by show e < 2 * 1; omega
  | i + 1, h => by
    have := ek_lt he i (fun j hj => h j (by omega))
    have b := h i (by omega)
    show ek F e i * 3 + (F i + 1).toNat < 2 * 3 ^ (i + 1)
    rw [Nat.pow_succ]
    omega
theorem ek_div {F : Nat → Int} {e : Nat} {i : Nat} (h : -1 ≤ F i ∧ F i ≤ 1) : ek F e (i + 1) / 3 = ek F e i ∧ ((ek F e (i + 1) % 3 : Nat) : Int) - 1 = F i := by
  show (ek F e i * 3 + (F i + 1).toNat) / 3 = ek F e i ∧ (((ek F e i * 3 + (F i + 1).toNat) % 3 : Nat) : Int) - 1 = F i
  omega
theorem ek_pow {F : Nat → Int} {e : Nat} (h : ∀ j, j < 16 → -1 ≤ F j ∧ F j ≤ 1) : ∀ d i, i + d = 16 → ek F e 16 / 3 ^ d = ek F e i
  | 0, i, hi => by
    rw [show i = 16 by omega]
    simp
  | d + 1, i, hi => by
    rw [Nat.pow_succ, ← Nat.div_div_eq_div_mul, ek_pow h d (i + 1) (by omega), (ek_div (h i (by omega))).1]
theorem dc_ek {A : zq_T} (h : inr1 A.1 = true) : dcT (zkv A 16) = A := by
  have hh := (inr1_iff A.1).mp h
  have d : ∀ i, i < 16 → dg (zkv A 16) i = zc A.1 i := fun i hi => by
    unfold dg
    show (((ek (zc A.1) A.2 16 / 3 ^ (15 - i)) % 3 : Nat) : Int) - 1 = _
    rw [ek_pow hh (15 - i) (i + 1) (by omega)]
    exact (ek_div (hh i hi)).2
  have e : zkv A 16 / 3 ^ 16 = A.2 := ek_pow hh 16 0 (by omega)
  unfold dcT
  rw [d 0 (by omega), d 1 (by omega), d 2 (by omega), d 3 (by omega), d 4 (by omega), d 5 (by omega), d 6 (by omega), d 7 (by omega), d 8 (by omega), d 9 (by omega), d 10 (by omega), d 11 (by omega), d 12 (by omega), d 13 (by omega), d 14 (by omega), d 15 (by omega), e]
  rfl
theorem cl_of_key {A : zq_T} (h : inr1 A.1 = true) {k : Nat} (hk : zkv A 16 = key k) : A = CL k := by
  rw [← dc_ek h, hk]
  rfl
