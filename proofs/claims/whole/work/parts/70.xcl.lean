/-! The 192: the class's keys. -/
theorem zi_div {a b : Nat} (ha : a < 2147483648) (hb : b < 2147483648) (h0 : 0 < b) : nI a / nI b = nI (a / b) := by
  apply Int32.toInt_inj.mp
  rw [Int32.toInt_div, nI_toInt ha, nI_toInt hb, nI_toInt (Nat.lt_of_le_of_lt (Nat.div_le_self a b) ha)]
  have e : ((a : Int).tdiv (b : Int)) = ((a / b : Nat) : Int) := by
    rw [← Int.ofNat_tdiv]
  rw [e]
  have := Nat.div_le_self a b
  show ((a / b : Nat) : Int).bmod (2 ^ 32) = _
  generalize a / b = q at this ⊢
  rw [Int.bmod_eq_of_le] <;> omega
theorem zi_mod {a b : Nat} (ha : a < 2147483648) (hb : b < 2147483648) (h0 : 0 < b) : nI a - nI a / nI b * nI b = nI (a % b) := by
  have h := Nat.div_add_mod a b
  have h2 : a / b * b ≤ a := Nat.div_mul_le_self a b
  rw [zi_div ha hb h0, zi_mul, zi_sub h2 ha]
  congr 1
  rw [Nat.mul_comm] at h2
  have : a / b * b = b * (a / b) := Nat.mul_comm _ _
  omega
theorem zt_cl : qv_rf qv_TT 63 0 = 64 ∧ qv_rf qv_TT 63 1 = 65 ∧ qv_rf qv_TT 63 2 = 66 ∧ qv_rf qv_TT 63 3 = 67 ∧ qv_rf qv_TT 63 4 = 68 ∧ qv_rf qv_TT 63 5 = 69 ∧ qv_rf qv_TT 63 6 = 70 ∧ qv_rf qv_TT 63 7 = 71 ∧ qv_rf qv_TT 71 0 = 72 ∧ qv_rf qv_TT 0 6 = 63 := by decide +kernel
def krun (F : Nat → Int) : Nat → Nat → Bool
  | 0, _ => true
  | n + 1, i => decide (-1 ≤ F i ∧ F i ≤ 1) && krun F n (i + 1)
theorem krun_iff (F : Nat → Int) : ∀ n i, krun F n i = true ↔ ∀ j, i ≤ j → j < i + n → -1 ≤ F j ∧ F j ≤ 1
  | 0, i => ⟨fun _ k h1 h2 => by omega, fun _ => rfl⟩
  | n + 1, i => by
    show (decide (-1 ≤ F i ∧ F i ≤ 1) && krun F n (i + 1)) = true ↔ _
    rw [Bool.and_eq_true, decide_eq_true_eq, krun_iff F n (i + 1)]
    constructor
    · intro h k h1 h2
      by_cases e : k = i
      · rw [e]; exact h.1
      · exact h.2 k (by omega) (by omega)
    · intro h
      exact ⟨h i (Nat.le_refl _) (by omega), fun k h1 h2 => h k (by omega) (by omega)⟩
def zkey (A : zq_T) : Int32 := if A.2 ≤ 1 then (if inr1 A.1 = true then nI (zkv A 16) else -2) else -2
theorem zi32_1 : ∀ z : Fin 3, (Int64.ofInt ((z.val : Int) - 1)).toInt32 = Int32.ofInt ((z.val : Int) - 1) := by decide +kernel
theorem zi_3p : ∀ m, m < 3 → ((nI m - 1).toInt64) = Int64.ofInt ((m : Int) - 1) := by decide +kernel
theorem zi_dig {n : Nat} {z : Int} (h1 : -1 ≤ z) (h2 : z ≤ 1) : (nI n * 3 + (Int64.ofInt z).toInt32) + 1 = nI (n * 3 + (z + 1).toNat) := by
  have c : z = -1 ∨ z = 0 ∨ z = 1 := by omega
  have e3 : (3 : Int32) = nI 3 := rfl
  rcases c with rfl | rfl | rfl
  · have : (Int64.ofInt (-1)).toInt32 = -1 := by decide
    rw [this, e3, zi_mul]
    have q : ((-1 : Int) + 1).toNat = 0 := by decide
    rw [q, Nat.add_zero]
    generalize nI (n * 3) = x
    grind
  · have : (Int64.ofInt 0).toInt32 = 0 := by decide
    rw [this, e3, zi_mul]
    have q : (0 + 1 : Int).toNat = 1 := by decide
    rw [q, ← nI_1]
    simp
  · have : (Int64.ofInt 1).toInt32 = nI 1 := by decide
    rw [this, e3, zi_mul, nI_add, nI_1]
    rfl
theorem x_key_lp {T : List qv_Ent} {t p : Nat} (hp : qv_rf T t 0 = p) {M : qv_Mem} {A : zq_F} {e : Nat} (hA : zh (M.2.1 p) A) (hb : zb A 2305843009213693952) : ∀ (n i f : Nat), i + n = 16 → n < f → qv_lp2 (b_X2_keyOf_18 t M T (fun v3 => some v3)) f (nI (ek (zc A) e i)) (nI i) = some (if krun (zc A) n i = true then nI (ek (zc A) e 16) else -2) := by
  intro n
  induction n with
  | zero =>
    intro i f hi hf
    obtain ⟨f, rfl⟩ : ∃ g, f = g + 1 := ⟨f - 1, by omega⟩
    rw [zN2]
    unfold b_X2_keyOf_18
    rw [zl16, if_pos (nI_le (by omega) (by omega)), show i = 16 by omega]
    rfl
  | succ n ih =>
    intro i f hi hf
    obtain ⟨f, rfl⟩ : ∃ g, f = g + 1 := ⟨f - 1, by omega⟩
    rw [zN2]
    have ih1 := ih (i + 1) f (by omega) (by omega)
    generalize qv_lp2 (b_X2_keyOf_18 t M T (fun v3 => some v3)) f = rr at ih1 ⊢
    unfold b_X2_keyOf_18
    obtain ⟨b1, b2⟩ := zb_c hb (show i < 16 by omega)
    rw [zl16, if_neg (zi_nle (a := 16) (b := i) (by omega) (by omega)), hp, zi_ldL (by omega) (by omega), hA i (by omega), nI_1]
    have m1 : (-1 : Int64).toInt = -1 := by decide
    have p1 : (1 : Int64).toInt = 1 := by decide
    have e1 : (lg_cmp (Int64.ofInt (zc A i)) (-1) < 0) = (zc A i < -1) := by
      rw [lg_cmp_lt, Int64.lt_iff_toInt_lt, ze_toInt (by omega) (by omega), m1]
    have e2 : (lg_cmp (Int64.ofInt (zc A i)) 1 ≤ 0) = (zc A i ≤ 1) := by
      apply propext
      constructor
      · intro q
        by_cases c : zc A i ≤ 1
        · exact c
        · exfalso
          have g : 0 < lg_cmp (Int64.ofInt (zc A i)) 1 := (lg_cmp_gt _ _).mpr (Int64.lt_iff_toInt_lt.mpr (by rw [ze_toInt (by omega) (by omega), p1]; omega))
          have := Int32.le_iff_toInt_le.mp q
          have := Int32.lt_iff_toInt_lt.mp g
          omega
      · intro c
        by_cases q : lg_cmp (Int64.ofInt (zc A i)) 1 ≤ 0
        · exact q
        · exfalso
          have g : 0 < lg_cmp (Int64.ofInt (zc A i)) 1 := Int32.lt_iff_toInt_lt.mpr (by
            have : ¬ (lg_cmp (Int64.ofInt (zc A i)) 1).toInt ≤ (0 : Int32).toInt := fun z => q (Int32.le_iff_toInt_le.mpr z)
            omega)
          have := Int64.lt_iff_toInt_lt.mp ((lg_cmp_gt _ _).mp g)
          rw [ze_toInt (by omega) (by omega), p1] at this
          omega
    show _ = some (if (decide (-1 ≤ zc A i ∧ zc A i ≤ 1) && krun (zc A) n (i + 1)) = true then nI (ek (zc A) e 16) else -2)
    by_cases c1 : zc A i < -1
    · rw [if_pos (by rw [e1]; exact c1), decide_eq_false (fun q => by omega)]
      rfl
    · rw [if_neg (by rw [e1]; exact c1)]
      by_cases c2 : zc A i ≤ 1
      · rw [if_pos (by rw [e2]; exact c2), decide_eq_true ⟨by omega, c2⟩, Bool.true_and, zi_dig (by omega) c2]
        exact ih1
      · rw [if_neg (by rw [e2]; exact c2), decide_eq_false (fun q => c2 q.2)]
        rfl
theorem x_keyOf {T : List qv_Ent} {t p : Nat} (hp : qv_rf T t 0 = p) {M : qv_Mem} {A : zq_T} (hA : zT M t p A) (hb : zb A.1 2305843009213693952) (he : A.2 < 1000) : f_X2_keyOf T t M = some (zkey A) := by
  unfold f_X2_keyOf zkey
  rw [zgS, hA.2, zl1i]
  by_cases c : A.2 ≤ 1
  · rw [if_pos (nI_le c (by omega)), if_pos c, zgS, hA.2, zjn, zi_0]
    have key1 := x_key_lp hp hA.1 hb (e := A.2) 16 0 qv_N (by omega) (qv_N_gt _ (by omega))
    have e0 : ek (zc A.1) A.2 0 = A.2 := rfl
    rw [e0] at key1
    rw [key1]
    by_cases d : inr1 A.1 = true
    · rw [if_pos d, if_pos ((krun_iff _ _ _).mpr (fun j _ hj => (inr1_iff A.1).mp d j (by omega)))]
      rfl
    · rw [if_neg d, if_neg (fun q => d ((inr1_iff A.1).mpr (fun j hj => (krun_iff _ _ _).mp q j (by omega) (by omega))))]
  · rw [if_neg (zi_nle (a := A.2) (b := 1) (by omega) (by omega)), if_neg c]
theorem key_lt {k : Nat} (hk : k < 192) : key k < 86093442 := by
  have h := cl_key hk
  rw [← h.1]
  exact ek_lt h.2.2 16 ((inr1_iff _).mp h.2.1)
theorem zkey_cl {k : Nat} (hk : k < 192) : zkey (CL k) = nI (key k) := by
  have h := cl_key hk
  unfold zkey
  rw [if_pos h.2.2, if_pos h.2.1, h.1]
theorem zkey_eq {A : zq_T} {k : Nat} (hk : k < 192) (h : zkey A = nI (key k)) : A = CL k := by
  have b := key_lt hk
  unfold zkey at h
  split at h
  · rename_i h1
    split at h
    · rename_i h2
      have l := ek_lt (F := zc A.1) h1 16 ((inr1_iff _).mp h2)
      have l2 : zkv A 16 < 86093442 := l
      exact cl_of_key h2 ((nI_eq (by omega) (by omega)).mp h)
    · exact absurd h.symm (zne_m2 _ (by omega))
  · exact absurd h.symm (zne_m2 _ (by omega))
/-- the first of the 192 that a table is -/
noncomputable def cix (A : zq_T) (c : Nat) : Int32 := @ite _ (∃ k, k < c ∧ CL k = A) (Classical.propDecidable _) (nI (@Classical.epsilon _ ⟨0⟩ (fun k => k < c ∧ CL k = A))) (-2)
theorem cix_in {A : zq_T} {c k : Nat} (hc : c ≤ 192) (hk : k < c) (h : CL k = A) : cix A c = nI k := by
  unfold cix
  rw [if_pos ⟨k, hk, h⟩]
  have hs := @Classical.epsilon_spec_aux _ ⟨0⟩ (fun k => k < c ∧ CL k = A) ⟨k, hk, h⟩
  congr 1
  exact cl_inj (by omega) (by omega) (hs.2.trans h.symm)
theorem cix_out {A : zq_T} {c : Nat} (h : ∀ k, k < c → CL k ≠ A) : cix A c = -2 := by
  unfold cix
  rw [if_neg (fun ⟨k, hk, q⟩ => h k hk q)]
theorem x_findKey {M : qv_Mem} {A : zq_T} {c : Nat} (hc : c ≤ 192) (h8 : M.2.2 63 8 = nI c) (hK : ∀ i, i < c → M.1 64 i = nI (key i)) : f_X2_findKey qv_TT 63 (zkey A) M = some (cix A c) := by
  unfold f_X2_findKey
  rw [zjn, zi_0]
  have key1 : ∀ (n i f : Nat), i + n = c → n < f → (∀ k, k < i → CL k ≠ A) → qv_lp1 (b_X2_findKey_2 63 (zkey A) M qv_TT (fun _ => some (-2))) f (nI i) = some (cix A c) := by
    intro n
    induction n with
    | zero =>
      intro i f hi hf hn
      obtain ⟨f, rfl⟩ : ∃ g, f = g + 1 := ⟨f - 1, by omega⟩
      rw [zN1]
      unfold b_X2_findKey_2
      rw [zgS, h8, if_pos (nI_le (by omega) (by omega)), cix_out (fun k hk => hn k (by omega))]
    | succ n ih =>
      intro i f hi hf hn
      obtain ⟨f, rfl⟩ : ∃ g, f = g + 1 := ⟨f - 1, by omega⟩
      rw [zN1]
      have ih1 := ih (i + 1) f (by omega) (by omega)
      generalize qv_lp1 (b_X2_findKey_2 63 (zkey A) M qv_TT (fun _ => some (-2))) f = rr at ih1 ⊢
      unfold b_X2_findKey_2
      rw [zgS, h8, if_neg (nI_ge (show i < c by omega) (by omega)), zt_cl.1, zi_ldI (by omega) (by omega), hK i (by omega), nI_1]
      by_cases e : CL i = A
      · rw [if_pos (by rw [← e, zkey_cl (by omega)]), cix_in hc (by omega) e]
      · rw [if_neg (fun q => e (zkey_eq (show i < 192 by omega) q.symm).symm)]
        exact ih1 (fun k hk => by
          by_cases z : k = i
          · rw [z]; exact e
          · exact hn k (by omega))
  exact key1 c 0 qv_N (by omega) (qv_N_gt _ (by omega)) (fun k hk => by omega)
/-- loading one of the 192 -/
def ldf (F : Nat → Int64) (n j : Nat) : Nat → Int64 := fun i => if j ≤ i ∧ i < 16 then Int64.ofInt (dg n i) else F i
theorem x_load_lp {T : List qv_Ent} {t p : Nat} (hp : qv_rf T t 0 = p) {n : Nat} (hn : n < 86093442) (M : qv_Mem) (k : Int32 → qv_Mem → Option qv_Mem) : ∀ (j f : Nat), j ≤ 16 → j < f → qv_lp3 (b_X2_load_11 t T k) f (nI (n / 3 ^ (16 - j))) (nI j - 1) (zf M p (ldf (M.2.1 p) n j)) = k (nI (n / 3 ^ 16)) (zf M p (ldf (M.2.1 p) n 0)) := by
  intro j
  induction j with
  | zero =>
    intro f hj hf
    obtain ⟨f, rfl⟩ : ∃ g, f = g + 1 := ⟨f - 1, by omega⟩
    show b_X2_load_11 t T k (qv_lp3 (b_X2_load_11 t T k) f) _ _ _ = _
    unfold b_X2_load_11
    rw [if_pos (by decide)]
  | succ j ih =>
    intro f hj hf
    obtain ⟨f, rfl⟩ : ∃ g, f = g + 1 := ⟨f - 1, by omega⟩
    show b_X2_load_11 t T k (qv_lp3 (b_X2_load_11 t T k) f) _ _ _ = _
    have ih1 := ih f (by omega) (by omega)
    generalize qv_lp3 (b_X2_load_11 t T k) f = rr at ih1 ⊢
    unfold b_X2_load_11
    have hd : n / 3 ^ (16 - (j + 1)) ≤ n := Nat.div_le_self _ _
    rw [zi_ps, if_neg (nI_pos (by omega)), hp, zl3, zi_mod (by omega) (by omega) (by omega), zi_div (by omega) (by omega) (by omega), zi_3p _ (Nat.mod_lt _ (by omega)), zi_stL (by omega) (by omega), zf_up]
    have e1 : n / 3 ^ (16 - (j + 1)) / 3 = n / 3 ^ (16 - j) := by
      rw [Nat.div_div_eq_div_mul, ← Nat.pow_succ, show (16 - (j + 1)).succ = 16 - j by omega]
    have e2 : zu (ldf (M.2.1 p) n (j + 1)) j (Int64.ofInt (((n / 3 ^ (16 - (j + 1)) % 3 : Nat) : Int) - 1)) = ldf (M.2.1 p) n j := by
      funext i
      unfold zu ldf
      by_cases c : i = j
      · rw [if_pos c, if_pos (by omega), c]
        unfold dg
        rw [show 16 - (j + 1) = 15 - j by omega]
      · rw [if_neg c]
        by_cases d : j + 1 ≤ i ∧ i < 16
        · rw [if_pos d, if_pos (by omega)]
        · rw [if_neg d, if_neg (by omega)]
    rw [e1, e2]
    have e3 : nI j + (-1) = nI j - 1 := by
      generalize nI j = x
      grind
    rw [e3]
    exact ih1
theorem dc_zh {F : Nat → Int64} (n : Nat) : zh (ldf F n 0) (dcT n).1 := by
  have q : ∀ i, i < 16 → ldf F n 0 i = Int64.ofInt (dg n i) := fun i hi => by unfold ldf; rw [if_pos (by omega)]
  exact zh_mk (q 0 (by omega)) (q 1 (by omega)) (q 2 (by omega)) (q 3 (by omega)) (q 4 (by omega)) (q 5 (by omega)) (q 6 (by omega)) (q 7 (by omega)) (q 8 (by omega)) (q 9 (by omega)) (q 10 (by omega)) (q 11 (by omega)) (q 12 (by omega)) (q 13 (by omega)) (q 14 (by omega)) (q 15 (by omega))
theorem x_load {t p : Nat} (hp : qv_rf qv_TT t 0 = p) {M : qv_Mem} {k : Nat} (hk : k < 192) (hK : M.1 64 k = nI (key k)) : ∃ M1, f_X2_load qv_TT 63 (nI k) t M = some M1 ∧ zT M1 t p (CL k) ∧ zo M M1 t p := by
  have b := key_lt hk
  unfold f_X2_load
  rw [zt_cl.1, zi_ldI hk (by omega), hK, zjn]
  have key1 := x_load_lp hp b M (fun (v2 : Int32) (M3 : qv_Mem) => qv_pS t 1 v2 M3 (fun M5 => some M5)) 16 qv_N (by omega) (qv_N_gt _ (by omega))
  have e1 : zf M p (ldf (M.2.1 p) (key k) 16) = M := by
    have : ldf (M.2.1 p) (key k) 16 = M.2.1 p := by
      funext i
      unfold ldf
      rw [if_neg (by omega)]
    rw [this, zf_self]
  have e2 : nI 16 - 1 = 15 := by decide
  rw [e1, e2, Nat.sub_self, Nat.pow_zero, Nat.div_one] at key1
  rw [key1, zpS, zf_S]
  refine ⟨_, rfl, zT_zf (dc_zh _) (zs_at _ _ _ _), (zo_S M t p _).tr (zo_zf _ t p _)⟩
