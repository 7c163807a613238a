/-! E is bounded by the count; count 0 is one of the 192. -/
theorem upn_8 (V : Nat → Int × Int) (k : Nat) : upn 6 V k = (8 * (V k).1, 8 * (V k).2) := by
  show (2 * (2 * (2 * (V k).1)), 2 * (2 * (2 * (V k).2))) = _
  refine Prod.ext ?_ ?_ <;> dsimp only <;> omega
theorem upn_add (m : Nat) (V : Nat → Int × Int) : ∀ n, upn (n + m) V = upn n (upn m V)
  | 0 => by rw [Nat.zero_add]; rfl
  | n + 1 => by
    rw [show n + 1 + m = (n + m) + 1 by omega]
    show upV (upn (n + m) V) = upV (upn n (upn m V))
    rw [upn_add m V n]
def nn (z : zq_N) : Int := (zq_mul z (zq_cj z)).1
def yy (z : zq_N) : Int := (zq_mul z (zq_cj z)).2.1
theorem nn_v (z : zq_N) : nn z = z.1 * z.1 + z.2.1 * z.2.1 + z.2.2.1 * z.2.2.1 + z.2.2.2 * z.2.2.2 := by
  unfold nn zq_mul zq_cj
  dsimp only
  grind
theorem yy_v (z : zq_N) : yy z = z.1 * z.2.1 + z.2.1 * z.2.2.1 + z.2.2.1 * z.2.2.2 - z.1 * z.2.2.2 := by
  unfold yy zq_mul zq_cj
  dsimp only
  grind
theorem bit_sub (a b : Int) : bit (a - b) = xor (bit a) (bit b) := by
  have e : bit (-b) = bit b := by
    have hb : b % 2 = 0 ∨ b % 2 = 1 := by omega
    rcases hb with e | e
    · rw [bit_f.mpr e, bit_f.mpr (by omega)]
    · rw [bit_t.mpr e, bit_t.mpr (by omega)]
  rw [Int.sub_eq_add_neg, bit_add, e]
theorem ev_pat : ∀ a b c d : Bool, xor (xor (xor (a && a) (b && b)) (c && c)) (d && d) = false → xor (xor (xor (a && b) (b && c)) (c && d)) (a && d) = false → xor a c = false ∧ xor b d = false := by decide
theorem zz_ev {z : zq_N} (h1 : nn z % 2 = 0) (h2 : yy z % 2 = 0) : zq_ev z = true := by
  rw [nn_v] at h1
  rw [yy_v] at h2
  have a := bit_f.mpr h1
  have b := bit_f.mpr h2
  rw [bit_add, bit_add, bit_add, bit_mul, bit_mul, bit_mul, bit_mul] at a
  rw [bit_sub, bit_add, bit_add, bit_mul, bit_mul, bit_mul, bit_mul] at b
  have c := ev_pat _ _ _ _ a b
  unfold zq_ev
  rw [Bool.and_eq_true, decide_eq_true_eq, decide_eq_true_eq]
  exact ⟨bit_f.mp (by rw [bit_add]; exact c.1), bit_f.mp (by rw [bit_add]; exact c.2)⟩
theorem ok_nn {A : zq_T} (h : zq_ok A) : (nn A.1.1 + nn A.1.2.1 = 2 ^ A.2 ∧ yy A.1.1 + yy A.1.2.1 = 0) ∧ (nn A.1.2.2.1 + nn A.1.2.2.2 = 2 ^ A.2 ∧ yy A.1.2.2.1 + yy A.1.2.2.2 = 0) ∧ nn A.1.1 + nn A.1.2.2.1 = 2 ^ A.2 ∧ nn A.1.2.1 + nn A.1.2.2.2 = 2 ^ A.2 := by
  obtain ⟨s1, s2⟩ := h.sq
  have a1 := congrArg (fun F : zq_F => F.1.1) s1
  have a2 := congrArg (fun F : zq_F => F.1.2.1) s1
  have a3 := congrArg (fun F : zq_F => F.2.2.2.1) s1
  have a4 := congrArg (fun F : zq_F => F.2.2.2.2.1) s1
  have b1 := congrArg (fun F : zq_F => F.1.1) s2
  have b3 := congrArg (fun F : zq_F => F.2.2.2.1) s2
  have m1 : ∀ z : zq_N, (zq_mul (zq_cj z) z).1 = nn z := fun z => by rw [zq_mul_comm]; rfl
  refine ⟨⟨a1, a2⟩, ⟨a3, a4⟩, ?_, ?_⟩
  · rw [← m1, ← m1]; exact b1
  · rw [← m1, ← m1]; exact b3
theorem V8 {A : zq_T} (h : zq_ok A) : chV A.1 8 = (2 * (nn A.1.1 - nn A.1.2.1), 2 * (yy A.1.1 - yy A.1.2.1)) ∧ nn A.1.2.2.2 - nn A.1.2.2.1 = nn A.1.1 - nn A.1.2.1 ∧ yy A.1.2.2.2 - yy A.1.2.2.1 = yy A.1.1 - yy A.1.2.1 := by
  have v := chs_v h (show 8 < 9 by omega) (show 8 % 3 = 2 by omega)
  have t := chS_t h 2
  have t1 : ∀ A : zq_F, (chS A 2).1.1 = nn A.1 - nn A.2.1 ∧ (chS A 2).1.2.1 = yy A.1 - yy A.2.1 ∧ (chS A 2).2.2.2.1 = nn A.2.2.1 - nn A.2.2.2 ∧ (chS A 2).2.2.2.2.1 = yy A.2.2.1 - yy A.2.2.2 := by
    intro A
    obtain ⟨⟨a, b, c, d⟩, ⟨e, f, g, h⟩, ⟨i, j, k, l⟩, ⟨m, n, o, p⟩⟩ := A
    unfold chS
    rw [sg_v.2.2]
    simp only [zq_pmF, zq_ctF, zq_mul, zq_add, zq_cj, nn, yy]
    refine ⟨?_, ?_, ?_, ?_⟩ <;> grind
  obtain ⟨q1, q2, q3, q4⟩ := t1 A.1
  have e1 : (chS A.1 2).1.1 + (chS A.1 2).2.2.2.1 = 0 := congrArg (fun z : zq_N => z.1) t
  have e2 : (chS A.1 2).1.2.1 + (chS A.1 2).2.2.2.2.1 = 0 := congrArg (fun z : zq_N => z.2.1) t
  refine ⟨?_, by omega, by omega⟩
  rw [← v]
  show (2 * (chS A.1 2).1.1, 2 * (chS A.1 2).1.2.1) = _
  rw [q1, q2]
theorem f_e {A : zq_T} (h : zq_ok A) : 2 * A.2 ≤ (chA A).2 + 3 := by
  by_cases c : 2 * A.2 ≤ (chA A).2 + 3
  · exact c
  · exfalso
    obtain ⟨n, h1, h2⟩ := chl_un (2 * A.2 + 2) (chV A.1)
    have hn : 6 ≤ n := by
      have : (chl (2 * A.2 + 2) (chV A.1)).2 = (chA A).2 := rfl
      omega
    obtain ⟨m, rfl⟩ : ∃ m, n = 6 + m := ⟨n - 6, by omega⟩
    have v := h1 8 (by omega)
    rw [upn_add, upn_8] at v
    obtain ⟨v8, w1, w2⟩ := V8 h
    rw [v8] at v
    generalize upn m (chl (2 * A.2 + 2) (chV A.1)).1 8 = u at v
    have x1 := congrArg Prod.fst v
    have x2 := congrArg Prod.snd v
    dsimp only at x1 x2
    obtain ⟨⟨n1, y1⟩, ⟨n2, y2⟩, -, -⟩ := ok_nn h
    have p4 : (2 : Int) ^ A.2 % 4 = 0 := by
      rw [pow2_4 (by omega), if_neg (by omega)]
    generalize (2 : Int) ^ A.2 = P at n1 n2 p4
    have ov : zq_ov A.1 = true := by
      unfold zq_ov
      rw [Bool.and_eq_true, Bool.and_eq_true, Bool.and_eq_true]
      exact ⟨zz_ev (by omega) (by omega), zz_ev (by omega) (by omega), zz_ev (by omega) (by omega), zz_ev (by omega) (by omega)⟩
    rcases h.ls with q | q
    · omega
    · rw [ov] at q
      cases q
/-! powers of w -/
def unl : List zq_N := [(1, 0, 0, 0), (0, 1, 0, 0), (0, 0, 1, 0), (0, 0, 0, 1), (-1, 0, 0, 0), (0, -1, 0, 0), (0, 0, -1, 0), (0, 0, 0, -1)]
theorem sq_nn (x : Int) : 0 ≤ x * x ∧ (x * x = 0 → x = 0) ∧ (x * x = 1 → x = 1 ∨ x = -1) ∧ (x ≠ 0 → 1 ≤ x * x) := by
  have h : x ≤ -2 ∨ x = -1 ∨ x = 0 ∨ x = 1 ∨ 2 ≤ x := by omega
  rcases h with h | rfl | rfl | rfl | h
  · have : 4 ≤ x * x := by
      have q := Int.mul_nonneg (show 0 ≤ -2 - x by omega) (show 0 ≤ -2 - x by omega)
      have e : (-2 - x) * (-2 - x) = 4 + 4 * x + x * x := by grind
      omega
    omega
  · decide
  · decide
  · decide
  · have : 4 ≤ x * x := by
      have q := Int.mul_nonneg (show 0 ≤ x - 2 by omega) (show 0 ≤ x - 2 by omega)
      have e : (x - 2) * (x - 2) = 4 - 4 * x + x * x := by grind
      omega
    omega
theorem nn_0 {z : zq_N} (h : nn z = 0) : z = (0, 0, 0, 0) := by
  obtain ⟨a, b, c, d⟩ := z
  rw [nn_v] at h
  dsimp only at h
  have qa := sq_nn a
  have qb := sq_nn b
  have qc := sq_nn c
  have qd := sq_nn d
  rw [qa.2.1 (by omega), qb.2.1 (by omega), qc.2.1 (by omega), qd.2.1 (by omega)]
theorem nn_ge (z : zq_N) : 0 ≤ nn z := by
  rw [nn_v]
  have qa := sq_nn z.1
  have qb := sq_nn z.2.1
  have qc := sq_nn z.2.2.1
  have qd := sq_nn z.2.2.2
  omega
theorem nn_1 {z : zq_N} (h : nn z = 1) : z ∈ unl := by
  obtain ⟨a, b, c, d⟩ := z
  rw [nn_v] at h
  dsimp only at h
  have qa := sq_nn a
  have qb := sq_nn b
  have qc := sq_nn c
  have qd := sq_nn d
  by_cases ha : a = 0
  · by_cases hb : b = 0
    · by_cases hc : c = 0
      · rw [ha, hb, hc] at h
        have := qd.2.2.1 (by omega)
        rw [ha, hb, hc]
        rcases this with e | e <;> rw [e] <;> decide
      · have := qc.2.2.1 (by have := qc.2.2.2 hc; omega)
        rw [ha, hb, qd.2.1 (by have := qc.2.2.2 hc; omega)]
        rcases this with e | e <;> rw [e] <;> decide
    · have b1 := qb.2.2.2 hb
      have := qb.2.2.1 (by omega)
      rw [ha, qc.2.1 (by omega), qd.2.1 (by omega)]
      rcases this with e | e <;> rw [e] <;> decide
  · have a1 := qa.2.2.2 ha
    have := qa.2.2.1 (by omega)
    rw [qb.2.1 (by omega), qc.2.1 (by omega), qd.2.1 (by omega)]
    rcases this with e | e <;> rw [e] <;> decide
def dvb (p : Int × Int) (n : Int) : Bool := decide (p.1 % n = 0) && decide (p.2 % n = 0)
def isC (A : zq_T) : Bool := decide (A.2 ≤ 1) && (inr1 A.1 && clK.contains (zkv A 16))
theorem isC_cl {A : zq_T} (h : isC A = true) : ∃ k, k < 192 ∧ A = CL k := by
  unfold isC at h
  rw [Bool.and_eq_true, Bool.and_eq_true, decide_eq_true_eq] at h
  obtain ⟨h1, h2, h3⟩ := h
  have m := List.contains_iff_mem.mp h3
  obtain ⟨k, hk, e⟩ := List.mem_iff_getElem.mp m
  have l : clK.length = 192 := by decide +kernel
  refine ⟨k, by omega, cl_of_key h2 ?_⟩
  unfold key
  rw [List.getD_eq_getElem?_getD, List.getElem?_eq_getElem hk]
  exact e.symm
theorem en_d : unl.all (fun a => unl.all (fun b => !(dvb (chV (a, (0, 0, 0, 0), (0, 0, 0, 0), b) 0) 2) || isC ((a, (0, 0, 0, 0), (0, 0, 0, 0), b), 0))) = true := by decide +kernel
theorem en_a : unl.all (fun a => unl.all (fun b => !(dvb (chV ((0, 0, 0, 0), a, b, (0, 0, 0, 0)) 0) 2) || isC (((0, 0, 0, 0), a, b, (0, 0, 0, 0)), 0))) = true := by decide +kernel
def orth (a b c d : zq_N) : Bool := decide (zq_add (zq_mul a (zq_cj c)) (zq_mul b (zq_cj d)) = (0, 0, 0, 0))
theorem en_1 : unl.all (fun a => unl.all (fun b => unl.all (fun c => unl.all (fun d => !(orth a b c d) || (!(dvb (chV (a, b, c, d) 2) 4) || (!(dvb (chV (a, b, c, d) 6) 4) || isC ((a, b, c, d), 1))))))) = true := by decide +kernel
theorem upn_2 (V : Nat → Int × Int) (k : Nat) : upn 2 V k = (2 * (V k).1, 2 * (V k).2) := rfl
theorem upn_4 (V : Nat → Int × Int) (k : Nat) : upn 4 V k = (4 * (V k).1, 4 * (V k).2) := by
  show (2 * (2 * (V k).1), 2 * (2 * (V k).2)) = _
  refine Prod.ext ?_ ?_ <;> dsimp only <;> omega
/-- count 0: one of the 192 -/
theorem f_0 {A : zq_T} (h : zq_ok A) (hf : (chA A).2 = 0) : ∃ k, k < 192 ∧ A = CL k := by
  have e := f_e h
  obtain ⟨n, h1, h2⟩ := chl_un (2 * A.2 + 2) (chV A.1)
  have h3 : (chl (2 * A.2 + 2) (chV A.1)).2 = 0 := hf
  obtain ⟨⟨n1, y1⟩, ⟨n2, y2⟩, n3, n4⟩ := ok_nn h
  have c : A.2 = 0 ∨ A.2 = 1 := by omega
  have g1 := nn_ge A.1.1
  have g2 := nn_ge A.1.2.1
  have g3 := nn_ge A.1.2.2.1
  have g4 := nn_ge A.1.2.2.2
  obtain ⟨⟨a, b, cc, d⟩, e0⟩ := A
  dsimp only at *
  rcases c with c | c
  · subst c
    have p : (2 : Int) ^ 0 = 1 := by decide
    rw [p] at n1 n2 n3 n4
    rw [show n = 2 by omega] at h1
    have v := h1 0 (by omega)
    rw [upn_2] at v
    have dv : dvb (chV (a, b, cc, d) 0) 2 = true := by
      unfold dvb
      rw [v, Bool.and_eq_true, decide_eq_true_eq, decide_eq_true_eq]
      dsimp only
      omega
    by_cases ca : nn a = 0
    · have z1 := nn_0 ca
      have z4 : d = (0, 0, 0, 0) := nn_0 (by omega)
      have u2 := nn_1 (z := b) (by omega)
      have u3 := nn_1 (z := cc) (by omega)
      have k := List.all_eq_true.mp (List.all_eq_true.mp en_a b u2) cc u3
      subst z1 z4
      rw [dv] at k
      exact isC_cl (by simpa using k)
    · have u1 := nn_1 (z := a) (by omega)
      have u4 := nn_1 (z := d) (by omega)
      have z2 : b = (0, 0, 0, 0) := nn_0 (by omega)
      have z3 : cc = (0, 0, 0, 0) := nn_0 (by omega)
      have k := List.all_eq_true.mp (List.all_eq_true.mp en_d a u1) d u4
      subst z2 z3
      rw [dv] at k
      exact isC_cl (by simpa using k)
  · subst c
    have p : (2 : Int) ^ 1 = 2 := by decide
    rw [p] at n1 n2 n3 n4
    rw [show n = 4 by omega] at h1
    have v2 := h1 2 (by omega)
    have v6 := h1 6 (by omega)
    rw [upn_4] at v2 v6
    have d2 : dvb (chV (a, b, cc, d) 2) 4 = true := by
      unfold dvb
      rw [v2, Bool.and_eq_true, decide_eq_true_eq, decide_eq_true_eq]
      dsimp only
      omega
    have d6 : dvb (chV (a, b, cc, d) 6) 4 = true := by
      unfold dvb
      rw [v6, Bool.and_eq_true, decide_eq_true_eq, decide_eq_true_eq]
      dsimp only
      omega
    by_cases ca : nn a = 1
    · have u1 := nn_1 (z := a) ca
      have u2 := nn_1 (z := b) (by omega)
      have u3 := nn_1 (z := cc) (by omega)
      have u4 := nn_1 (z := d) (by omega)
      have k := List.all_eq_true.mp (List.all_eq_true.mp (List.all_eq_true.mp (List.all_eq_true.mp en_1 a u1) b u2) cc u3) d u4
      have o : orth a b cc d = true := by
        unfold orth
        rw [decide_eq_true_eq]
        have := congrArg (fun F : zq_F => F.2.1) h.sq.1
        exact this
      rw [o, d2, d6] at k
      exact isC_cl (by simpa using k)
    · exfalso
      have z0 : yy (0, 0, 0, 0) = 0 := by decide
      have ov : zq_ov (a, b, cc, d) = true := by
        unfold zq_ov
        rw [Bool.and_eq_true, Bool.and_eq_true, Bool.and_eq_true]
        show zq_ev a = true ∧ zq_ev b = true ∧ zq_ev cc = true ∧ zq_ev d = true
        by_cases c0 : nn a = 0
        · have z1 := nn_0 c0
          have z4 : d = (0, 0, 0, 0) := nn_0 (by omega)
          rw [z1, z0] at y1
          rw [z4, z0] at y2
          refine ⟨?_, zz_ev (by omega) (by omega), zz_ev (by omega) (by omega), ?_⟩
          · rw [z1]; decide
          · rw [z4]; decide
        · have z2 : b = (0, 0, 0, 0) := nn_0 (by omega)
          have z3 : cc = (0, 0, 0, 0) := nn_0 (by omega)
          rw [z2, z0] at y1
          rw [z3, z0] at y2
          refine ⟨zz_ev (by omega) (by omega), ?_, ?_, zz_ev (by omega) (by omega)⟩
          · rw [z2]; decide
          · rw [z3]; decide
      rcases h.ls with q | q
      · cases q
      · have q2 : zq_ov (a, b, cc, d) = false := q
        rw [ov] at q2
        cases q2
