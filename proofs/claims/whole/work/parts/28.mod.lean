/-! The reference's tables: slots of seventeen longs in one row q. -/
def zS (M : qv_Mem) (q s : Nat) (A : zq_T) : Prop := zh (fun j => M.2.1 q (17 * s + j)) A.1 ∧ M.2.1 q (17 * s + 16) = Int64.ofInt (A.2 : Int)
/-- only slots of a kind changed -/
def zso (M M1 : qv_Mem) (q : Nat) (S : Nat → Prop) : Prop := M1.1 = M.1 ∧ M1.2.2 = M.2.2 ∧ (∀ a, a ≠ q → M1.2.1 a = M.2.1 a) ∧ ∀ s, ¬ S s → ∀ j, j < 17 → M1.2.1 q (17 * s + j) = M.2.1 q (17 * s + j)
theorem zso.rf (M : qv_Mem) (q : Nat) (S : Nat → Prop) : zso M M q S := ⟨rfl, rfl, fun _ _ => rfl, fun _ _ _ _ => rfl⟩
theorem zso.tr {M M1 M2 : qv_Mem} {q : Nat} {S S1 S2 : Nat → Prop} (h : zso M M1 q S1) (k : zso M1 M2 q S2) (h1 : ∀ s, S1 s → S s) (h2 : ∀ s, S2 s → S s) : zso M M2 q S :=
  ⟨k.1.trans h.1, k.2.1.trans h.2.1, fun a ha => (k.2.2.1 a ha).trans (h.2.2.1 a ha), fun s hs j hj => (k.2.2.2 s (fun e => hs (h2 s e)) j hj).trans (h.2.2.2 s (fun e => hs (h1 s e)) j hj)⟩
theorem zso_zf {M : qv_Mem} {q : Nat} {S : Nat → Prop} {F : Nat → Int64} (h : ∀ s, ¬ S s → ∀ j, j < 17 → F (17 * s + j) = M.2.1 q (17 * s + j)) : zso M (zf M q F) q S := ⟨rfl, rfl, fun a ha => by funext j; exact zf_ne ha j, fun s hs j hj => by rw [zf_at]; exact h s hs j hj⟩
theorem zS.kept {M M1 : qv_Mem} {q s : Nat} {A : zq_T} {S : Nat → Prop} (h : zS M q s A) (k : zso M M1 q S) (hs : ¬ S s) : zS M1 q s A :=
  ⟨fun j hj => by show M1.2.1 q (17 * s + j) = _; rw [k.2.2.2 s hs j (by omega)]; exact h.1 j hj, by rw [k.2.2.2 s hs 16 (by omega)]; exact h.2⟩
theorem y_at {T : List qv_Ent} {t q : Nat} (hq : qv_rf T t 0 = q) (M : qv_Mem) {s i k : Nat} (h : 17 * s + 4 * i + k < 340) : f_X10_at T t (nI s) (nI i) (nI k) M = some (M.2.1 q (17 * s + 4 * i + k)) := by
  unfold f_X10_at
  simp (disch := omega) only [hq, zi_lit, pk_mul, nI_add, zi_ldL]
theorem y_number {T : List qv_Ent} {t q : Nat} (hq : qv_rf T t 0 = q) (M : qv_Mem) (F : Nat → Int64) (v : Int64) {s i k : Nat} (h : 17 * s + 4 * i + k < 340) : f_X10_number T t (nI s) (nI i) (nI k) v (zf M q F) = some (zf M q (zu F (17 * s + 4 * i + k) v)) := by
  unfold f_X10_number
  simp (disch := omega) only [hq, zi_lit, pk_mul, nI_add, zi_stL, zf_up]
theorem y_eOf {T : List qv_Ent} {t q : Nat} (hq : qv_rf T t 0 = q) {M : qv_Mem} {s : Nat} (h : s < 20) {A : zq_T} (hA : zS M q s A) (he : A.2 < 2147483648) : f_X10_eOf T t (nI s) M = some (nI A.2) := by
  unfold f_X10_eOf
  simp (disch := omega) only [hq, zi_lit, pk_mul, nI_add, zi_ldL, hA.2]
  congr 1
  show (lN A.2).toInt32 = nI A.2
  exact lN_i A.2
def y_co (F : Nat → Int64) (a b n : Nat) : Nat → Int64 := fun j => if 17 * b ≤ j ∧ j < 17 * b + n then F (17 * a + (j - 17 * b)) else F j
theorem y_copies {T : List qv_Ent} {t q : Nat} (hq : qv_rf T t 0 = q) (M : qv_Mem) (F : Nat → Int64) {a b : Nat} (ha : a < 20) (hb : b < 20) : f_X10_copies T t (nI a) (nI b) (zf M q F) = some (zf M q (y_co F a b 17)) := by
  unfold f_X10_copies
  rw [zjn]
  have e0 : zf M q F = zf M q (y_co F a b 0) := by
    congr 1
    funext j
    simp only [y_co]
    rw [if_neg (by omega)]
  rw [e0, zi_0]
  refine zfor2 (s := fun i => zf M q (y_co F a b i)) (k := fun M1 => some M1) 0 17 (by omega) (fun i r h0 hi => ?_) (fun r => ?_) qv_N (qv_N_gt _ (by decide))
  · simp (disch := omega) only [b_X10_copies_2, hq, zi_lit, pk_mul, nI_add, zi_le, zi_ldL, zi_stL, zf_at, zf_up]
    rw [if_neg (by omega)]
    congr 2
    funext j
    simp only [zu, y_co]
    by_cases hab : a = b
    · subst hab
      grind
    · grind
  · simp (disch := omega) only [b_X10_copies_2, zi_lit, zi_le]
    rw [if_pos (by omega)]
theorem y_copies1 {T : List qv_Ent} {t q : Nat} (hq : qv_rf T t 0 = q) (M : qv_Mem) {a b : Nat} (ha : a < 20) (hb : b < 20) {A : zq_T} (h : zS M q a A) : ∃ M1, f_X10_copies T t (nI a) (nI b) M = some M1 ∧ zS M1 q b A ∧ zso M M1 q (fun s => s = b) := by
  have h1 := y_copies hq M (M.2.1 q) ha hb
  rw [zf_self] at h1
  refine ⟨_, h1, ⟨fun j hj => ?_, ?_⟩, zso_zf (fun s hs j hj => ?_)⟩
  · show (zf M q _).2.1 q (17 * b + j) = _
    rw [zf_at, ← h.1 j hj]
    simp only [y_co]
    rw [if_pos (by omega), show 17 * a + (17 * b + j - 17 * b) = 17 * a + j by omega]
  · rw [zf_at, ← h.2]
    simp only [y_co]
    rw [if_pos (by omega), show 17 * a + (17 * b + 16 - 17 * b) = 17 * a + 16 by omega]
  · simp only [y_co]
    rw [if_neg (by omega)]
/-! parity -/
theorem y_par (a c : Int) : (lg_cmp ((Int64.ofInt a + Int64.ofInt c) - (Int64.ofInt a + Int64.ofInt c) / 2 * 2) 0 = 0) = ((a + c) % 2 = 0) := by
  rw [lg_cmp_eq, ← Int64.ofInt_add, ze_rem2, ze_ofInt_mod]
def y_pb (A : zq_F) : Nat → Bool
  | 0 => true
  | n + 1 => y_pb A n && zq_ev (zk A n)
theorem y_pb4 (A : zq_F) : y_pb A 4 = zq_ov A := by
  show ((((true && zq_ev A.1) && zq_ev A.2.1) && zq_ev A.2.2.1) && zq_ev A.2.2.2) = zq_ov A
  unfold zq_ov
  cases zq_ev A.1 <;> cases zq_ev A.2.1 <;> cases zq_ev A.2.2.1 <;> cases zq_ev A.2.2.2 <;> rfl
def y_b2i (b : Bool) : Int32 := if b = true then 1 else 0
theorem y_and (a b : Bool) : y_b2i a &&& y_b2i b = y_b2i (a && b) := by
  cases a <;> cases b <;> decide
theorem y_sat4 {F : Nat → Int64} {s : Nat} {A : zq_F} (h : zh (fun j => F (17 * s + j)) A) {i : Nat} (hi : i < 4) : F (17 * s + 4 * i + 0) = Int64.ofInt (zk A i).1 ∧ F (17 * s + 4 * i + 1) = Int64.ofInt (zk A i).2.1 ∧ F (17 * s + 4 * i + 2) = Int64.ofInt (zk A i).2.2.1 ∧ F (17 * s + 4 * i + 3) = Int64.ofInt (zk A i).2.2.2 := by
  obtain ⟨h0, h1, h2, h3⟩ := zh_at4 h hi
  exact ⟨by rw [← h0]; rfl, by rw [← h1]; rfl, by rw [← h2]; rfl, by rw [← h3]; rfl⟩
theorem y_isOver {T : List qv_Ent} {t q : Nat} (hq : qv_rf T t 0 = q) (M : qv_Mem) {s : Nat} (hs : s < 20) {A : zq_F} (h : zh (fun j => M.2.1 q (17 * s + j)) A) : f_X10_isOver T t (nI s) M = some (y_b2i (zq_ov A)) := by
  unfold f_X10_isOver
  rw [zjn, show (1 : Int32) = y_b2i (y_pb A 0) from rfl, zi_0]
  have k0 : qv_lp2 (b_X10_isOver_4 t (nI s) M T (fun v1 => qv_gd (qv_01 v1) (some v1))) qv_N (y_b2i (y_pb A 0)) (nI 0) = qv_gd (qv_01 (y_b2i (y_pb A 4))) (some (y_b2i (y_pb A 4))) := by
    refine zfor2c (c := fun i => y_b2i (y_pb A i)) (s := fun i => nI i) 0 4 (by omega) (fun i r h0 hi => ?_) (fun r => ?_) qv_N (qv_N_gt _ (by decide))
    · obtain ⟨e0, e1, e2, e3⟩ := y_sat4 h hi
      unfold b_X10_isOver_4
      rw [if_neg (show ¬ (4 : Int32) ≤ nI i from zi_nle (a := 4) (b := i) (by omega) (by omega)), show (0 : Int32) = nI 0 from rfl, show (2 : Int32) = nI 2 from rfl, y_at hq M (by omega), zbo, y_at hq M (by omega), zbo, zjn, e0, e2]
      show (if lg_cmp ((Int64.ofInt (zk A i).1 + Int64.ofInt (zk A i).2.2.1) - (Int64.ofInt (zk A i).1 + Int64.ofInt (zk A i).2.2.1) / 2 * 2) 0 = 0 then _ else r (y_b2i (y_pb A i) &&& y_b2i false) (nI i + nI 1)) = r (y_b2i (y_pb A i && zq_ev (zk A i))) (nI (i + 1))
      rw [show (1 : Int32) = nI 1 from rfl, show (3 : Int32) = nI 3 from rfl, y_at hq M (by omega), zbo, y_at hq M (by omega), zbo, e1, e3, nI_add]
      have hv : zq_ev (zk A i) = (decide (((zk A i).1 + (zk A i).2.2.1) % 2 = 0) && decide (((zk A i).2.1 + (zk A i).2.2.2) % 2 = 0)) := rfl
      by_cases p1 : ((zk A i).1 + (zk A i).2.2.1) % 2 = 0
      · rw [if_pos (by rw [y_par]; exact p1)]
        by_cases p2 : ((zk A i).2.1 + (zk A i).2.2.2) % 2 = 0
        · rw [if_pos (show lg_cmp ((Int64.ofInt (zk A i).2.1 + Int64.ofInt (zk A i).2.2.2) - (Int64.ofInt (zk A i).2.1 + Int64.ofInt (zk A i).2.2.2) / 2 * 2) 0 = nI 0 by rw [show (nI 0 : Int32) = 0 from rfl, y_par]; exact p2)]
          show r (y_b2i (y_pb A i) &&& y_b2i true) _ = _
          rw [y_and, hv]
          simp [p1, p2]
        · rw [if_neg (show ¬ lg_cmp ((Int64.ofInt (zk A i).2.1 + Int64.ofInt (zk A i).2.2.2) - (Int64.ofInt (zk A i).2.1 + Int64.ofInt (zk A i).2.2.2) / 2 * 2) 0 = nI 0 by rw [show (nI 0 : Int32) = 0 from rfl, y_par]; exact p2)]
          show r (y_b2i (y_pb A i) &&& y_b2i false) _ = _
          rw [y_and, hv]
          simp [p2]
      · rw [if_neg (by rw [y_par]; exact p1), y_and, hv]
        simp [p1]
    · unfold b_X10_isOver_4
      rw [if_pos (show (4 : Int32) ≤ nI 4 from by decide)]
  rw [k0, y_pb4]
  cases zq_ov A <;> rfl
/-! lowering -/
def y_dv (F : Nat → Int64) (a : Nat) : Nat → Int64 := z_dv F a
def y_dn (F : Nat → Int64) (o : Nat) : Nat → Nat → Int64
  | 0 => F
  | n + 1 => z_dv (y_dn F o n) (o + 4 * n)
theorem y_dn_out (F : Nat → Int64) (o : Nat) : ∀ (n j : Nat), (j < o ∨ o + 4 * n ≤ j) → y_dn F o n j = F j
  | 0, _, _ => rfl
  | n + 1, j, h => by
    show z_dv (y_dn F o n) (o + 4 * n) j = F j
    unfold z_dv
    rw [if_neg (by omega), if_neg (by omega), if_neg (by omega), if_neg (by omega)]
    exact y_dn_out F o n j (by omega)
theorem y_dn_in (F : Nat → Int64) (o : Nat) : ∀ (n j : Nat), j < 4 * n → y_dn F o n (o + j) = z_dn (fun k => F (o + k)) n j
  | 0, j, h => by omega
  | n + 1, j, h => by
    show z_dv (y_dn F o n) (o + 4 * n) (o + j) = z_dv (z_dn (fun k => F (o + k)) n) (4 * n) j
    by_cases hj : j < 4 * n
    · unfold z_dv
      rw [if_neg (by omega), if_neg (by omega), if_neg (by omega), if_neg (by omega), if_neg (by omega), if_neg (by omega), if_neg (by omega), if_neg (by omega)]
      exact y_dn_in F o n j hj
    · have e : ∀ k, 4 * n ≤ k → y_dn F o n (o + k) = z_dn (fun k => F (o + k)) n k := fun k hk => by
        rw [y_dn_out F o n _ (by omega), z_dn_ge _ n k hk]
      have e0 := e (4 * n) (by omega)
      have e1 := e (4 * n + 1) (by omega)
      have e2 := e (4 * n + 2) (by omega)
      have e3 := e (4 * n + 3) (by omega)
      unfold z_dv
      rw [Nat.add_assoc o, Nat.add_assoc o, Nat.add_assoc o, e0, e1, e2, e3, e j (by omega)]
      have c0 : (o + j = o + 4 * n) = (j = 4 * n) := propext ⟨fun h => by omega, fun h => by omega⟩
      have c1 : (o + j = o + (4 * n + 1)) = (j = 4 * n + 1) := propext ⟨fun h => by omega, fun h => by omega⟩
      have c2 : (o + j = o + (4 * n + 2)) = (j = 4 * n + 2) := propext ⟨fun h => by omega, fun h => by omega⟩
      have c3 : (o + j = o + (4 * n + 3)) = (j = 4 * n + 3) := propext ⟨fun h => by omega, fun h => by omega⟩
      simp only [c0, c1, c2, c3]
theorem y_lw18 {T : List qv_Ent} {t q : Nat} (hq : qv_rf T t 0 = q) (M : qv_Mem) (F : Nat → Int64) {s : Nat} (hs : s < 20) (k : qv_Mem → Option qv_Mem) : qv_lp2 (b_X10_lowers_18 t (nI s) T k) qv_N (nI 0) (zf M q F) = k (zf M q (y_dn F (17 * s) 4)) := by
  refine zfor2 (s := fun i => zf M q (y_dn F (17 * s) i)) (k := k) 0 4 (by omega) (fun i r h0 hi => ?_) (fun r => ?_) qv_N (qv_N_gt _ (by decide))
  · unfold b_X10_lowers_18
    show _ = r (nI (i + 1)) (zf M q (z_dv (y_dn F (17 * s) i) (17 * s + 4 * i)))
    generalize y_dn F (17 * s) i = G
    rw [if_neg (show ¬ (4 : Int32) ≤ nI i from zi_nle (a := 4) (b := i) (by omega) (by omega)), show (0 : Int32) = nI 0 from rfl, show (1 : Int32) = nI 1 from rfl, show (2 : Int32) = nI 2 from rfl, show (3 : Int32) = nI 3 from rfl, y_at hq _ (by omega), zbo, y_at hq _ (by omega), zbo, y_at hq _ (by omega), zbo, y_at hq _ (by omega), zbo, y_number hq M _ _ (by omega), zbo, y_number hq M _ _ (by omega), zbo, y_number hq M _ _ (by omega), zbo, y_number hq M _ _ (by omega), zbo, nI_add]
    simp only [zf_at]
    congr 2
    funext j
    generalize 17 * s + 4 * i = o
    simp only [zu, z_dv, Nat.add_zero]
    grind
  · unfold b_X10_lowers_18
    rw [if_pos (show (4 : Int32) ≤ nI 4 from by decide)]
theorem y_lower_lp {T : List qv_Ent} {t q s : Nat} (hq : qv_rf T t 0 = q) (hs : s < 20) (k : qv_Mem → Option qv_Mem) (e : Nat) : ∀ (M : qv_Mem) (A : zq_F) (f : Nat), zS M q s (A, e) → zb A 2305843009213693952 → e < 1000000 → e < f → ∃ M1, qv_lp1 (b_X10_lowers_0 t (nI s) T k) f M = k M1 ∧ zS M1 q s (zq_lowF e A) ∧ zso M M1 q (fun x => x = s) := by
  induction e with
  | zero =>
    intro M A f h hb h1 hf
    obtain ⟨f, rfl⟩ : ∃ g, f = g + 1 := ⟨f - 1, by omega⟩
    refine ⟨M, ?_, h, zso.rf _ _ _⟩
    rw [zN1]
    unfold b_X10_lowers_0
    rw [y_eOf hq hs h (by show 0 < 2147483648; omega), zbo, if_pos (show (nI 0 : Int32) ≤ 0 from by decide)]
  | succ e ih =>
    intro M A f h hb h1 hf
    obtain ⟨f, rfl⟩ : ∃ g, f = g + 1 := ⟨f - 1, by omega⟩
    rw [zN1]
    generalize hr : qv_lp1 (b_X10_lowers_0 t (nI s) T k) f = r
    unfold b_X10_lowers_0
    rw [y_eOf hq hs h (by show e + 1 < 2147483648; omega), zbo, if_neg (show ¬ (nI (e + 1) : Int32) ≤ 0 from nI_nle (by omega) (by omega)), y_isOver hq M hs h.1, zbo]
    unfold zq_lowF
    by_cases ho : zq_ov A = true
    · rw [if_pos ho, ho, if_neg (show ¬ y_b2i true = 0 by decide), zjn]
      have e1 := y_lw18 hq M (M.2.1 q) hs (fun M7 => qv_ldL 340 (qv_rf T t 0) ((17 * (nI s)) + 16) M7 (fun v9 => qv_stL 340 (qv_rf T t 0) ((17 * (nI s)) + 16) (v9 - 1) M7 (fun M10 => r M10)))
      rw [zf_self] at e1
      rw [zi_0, e1]
      have hlt : 17 * s + 16 < 340 := by omega
      have hix : (17 * nI s + 16 : Int32) = nI (17 * s + 16) := by rw [zi_lit 17, zi_lit 16, pk_mul, nI_add]
      rw [hix, hq, zi_ldL hlt (by omega), zi_stL hlt (by omega), zf_up, zf_at]
      have v : zS (zf M q (zu (y_dn (M.2.1 q) (17 * s) 4) (17 * s + 16) (y_dn (M.2.1 q) (17 * s) 4 (17 * s + 16) - 1))) q s (zq_map zq_dv A, e) := by
        refine ⟨fun j hj => ?_, ?_⟩
        · show (zf M q _).2.1 q (17 * s + j) = _
          rw [zf_at]
          simp only [zu]
          rw [if_neg (by omega), y_dn_in _ _ 4 j (by omega)]
          exact zh_dv h.1 hb ho j hj
        · rw [zf_at]
          simp only [zu, if_true]
          rw [y_dn_out _ _ 4 _ (by omega), h.2]
          show Int64.ofInt ((e : Int) + 1) - 1 = Int64.ofInt (e : Int)
          rw [Int64.ofInt_add]
          show Int64.ofInt (e : Int) + 1 - 1 = _
          grind
      obtain ⟨M1, g1, g2, g3⟩ := ih _ _ f v (zb_dv hb) (by omega) (by omega)
      rw [hr] at g1
      refine ⟨M1, g1, g2, zso.tr (S1 := fun x => x = s) (zso_zf (fun x hx j hj => ?_)) g3 (fun _ h => h) (fun _ h => h)⟩
      simp only [zu]
      rw [if_neg (by omega), y_dn_out _ _ 4 _ (by omega)]
    · have hof : zq_ov A = false := by simpa using ho
      rw [if_neg ho, hof, if_pos (show y_b2i false = 0 from rfl)]
      exact ⟨M, rfl, h, zso.rf _ _ _⟩
theorem y_lowers {T : List qv_Ent} {t q s : Nat} (hq : qv_rf T t 0 = q) (hs : s < 20) {M : qv_Mem} {A : zq_T} (h : zS M q s A) (hb : zb A.1 2305843009213693952) (he : A.2 < 1000000) : ∃ M1, f_X10_lowers T t (nI s) M = some M1 ∧ zS M1 q s (zq_low A) ∧ zso M M1 q (fun x => x = s) := by
  unfold f_X10_lowers
  rw [zjn]
  exact y_lower_lp hq hs (fun M1 => some M1) A.2 M A.1 qv_N h hb he (qv_N_gt _ he)
