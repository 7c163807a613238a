theorem zfor2c {A1 A2 α : Type} {b : (A1 → A2 → Option α) → A1 → A2 → Option α} {o : Option α} (c : Nat → A1) (s : Nat → A2) (i0 e : Nat) (hie : i0 ≤ e) (hb : ∀ i r, i0 ≤ i → i < e → b r (c i) (s i) = r (c (i + 1)) (s (i + 1))) (he : ∀ r, b r (c e) (s e) = o) (f : Nat) (hf : e - i0 < f) : qv_lp2 b f (c i0) (s i0) = o := by
  have h : ∀ (f i : Nat), i0 ≤ i → i ≤ e → e - i < f → qv_lp2 b f (c i) (s i) = o := by
    intro f
    induction f with
    | zero => intro i _ _ h; omega
    | succ f ih =>
      intro i h0 h1 h2
      rw [zN2]
      by_cases h : i < e
      · rw [hb i _ h0 h]
        exact ih (i + 1) (by omega) (by omega) (by omega)
      · have : i = e := by omega
        subst this
        exact he _
  exact h f i0 (Nat.le_refl _) hie hf
theorem zp_iff (a c : Int) : (lg_cmp ((Int64.ofInt a + Int64.ofInt c) &&& 1) 0 = 0) = ((a + c) % 2 = 0) := by
  rw [lg_cmp_eq, ← Int64.ofInt_add, ze_and1, ze_ofInt_mod]
theorem zc_at (A : zq_F) (i k : Nat) (hk : k < 4) : zc A (4 * i + k) = zn (zk A i) k := by
  unfold zc
  rw [show (4 * i + k) / 4 = i by omega, show (4 * i + k) % 4 = k by omega]
theorem zh_at4 {F : Nat → Int64} {A : zq_F} (h : zh F A) {i : Nat} (hi : i < 4) : F (4 * i) = Int64.ofInt (zk A i).1 ∧ F (4 * i + 1) = Int64.ofInt (zk A i).2.1 ∧ F (4 * i + 2) = Int64.ofInt (zk A i).2.2.1 ∧ F (4 * i + 3) = Int64.ofInt (zk A i).2.2.2 := by
  refine ⟨?_, ?_, ?_, ?_⟩
  · rw [h _ (by omega), show 4 * i = 4 * i + 0 from rfl, zc_at A i 0 (by omega)]; rfl
  · rw [h _ (by omega), zc_at A i 1 (by omega)]; rfl
  · rw [h _ (by omega), zc_at A i 2 (by omega)]; rfl
  · rw [h _ (by omega), zc_at A i 3 (by omega)]; rfl
theorem z_mr_step {T : List qv_Ent} {t p : Nat} (hp : qv_rf T t 0 = p) (M : qv_Mem) {A : zq_F} (h : zh (M.2.1 p) A) (k : Unit → Option Int32) (r : Int32 → Option Int32) {i : Nat} (hi : i < 4) : b_X7_isMultipleOfR_2 t M T k r (nI (4 * i)) = if zq_ev (zk A i) = true then r (nI (4 * i + 4)) else some 0 := by
  obtain ⟨e0, e1, e2, e3⟩ := zh_at4 h hi
  simp (disch := omega) only [b_X7_isMultipleOfR_2, hp, zi_lit, nI_add, zi_le, zi_ldL, e0, e1, e2, e3, qv_jn, zi_eq]
  rw [if_neg (by omega)]
  simp only [show (nI 0 : Int32) = 0 from rfl, show (nI 1 : Int32) = 1 from rfl, zp_iff]
  unfold zq_ev
  by_cases h1 : ((zk A i).1 + (zk A i).2.2.1) % 2 = 0
  · by_cases h2 : ((zk A i).2.1 + (zk A i).2.2.2) % 2 = 0
    · simp [h1, h2]
    · simp [h1, h2]
  · simp [h1]
theorem z_isMultipleOfR {T : List qv_Ent} {t p : Nat} (hp : qv_rf T t 0 = p) (M : qv_Mem) {A : zq_F} (h : zh (M.2.1 p) A) : f_X7_isMultipleOfR T t M = some (if zq_ov A = true then 1 else 0) := by
  show qv_lp1 (b_X7_isMultipleOfR_2 t M T (fun _ => some 1)) qv_N (nI 0) = _
  obtain ⟨f, hf⟩ : ∃ f, qv_N = f + 1 + 1 + 1 + 1 + 1 := ⟨999995, by rw [qv_N_eq]⟩
  rw [hf, zN1]
  have s0 := fun k r => z_mr_step hp M h k r (i := 0) (by omega)
  have s1 := fun k r => z_mr_step hp M h k r (i := 1) (by omega)
  have s2 := fun k r => z_mr_step hp M h k r (i := 2) (by omega)
  have s3 := fun k r => z_mr_step hp M h k r (i := 3) (by omega)
  have s4 : ∀ k r, b_X7_isMultipleOfR_2 t M T k r (nI 16) = k () := by
    intro k r
    simp (disch := omega) only [b_X7_isMultipleOfR_2, zi_lit, zi_le]
    rw [if_pos (by omega)]
  simp only [Nat.reduceMul, Nat.reduceAdd] at s0 s1 s2 s3
  rw [s0]
  unfold zq_ov
  show (if zq_ev A.1 = true then _ else _) = _
  by_cases h0 : zq_ev A.1 = true
  · rw [if_pos h0, zN1, s1]
    show (if zq_ev A.2.1 = true then _ else _) = _
    by_cases h1 : zq_ev A.2.1 = true
    · rw [if_pos h1, zN1, s2]
      show (if zq_ev A.2.2.1 = true then _ else _) = _
      by_cases h2 : zq_ev A.2.2.1 = true
      · rw [if_pos h2, zN1, s3]
        show (if zq_ev A.2.2.2 = true then _ else _) = _
        by_cases h3 : zq_ev A.2.2.2 = true
        · rw [if_pos h3, zN1, s4]
          simp [h0, h1, h2, h3]
        · rw [if_neg h3]
          simp [h3]
      · rw [if_neg h2]
        simp [h2]
    · rw [if_neg h1]
      simp [h1]
  · rw [if_neg h0]
    simp [h0]
def z_dv (F : Nat → Int64) (a : Nat) : Nat → Int64 := fun j => if j = a then (F (a + 1) - F (a + 3)) / 2 else if j = a + 1 then (F a + F (a + 2)) / 2 else if j = a + 2 then (F (a + 1) + F (a + 3)) / 2 else if j = a + 3 then (F (a + 2) - F a) / 2 else F j
theorem z_divideByR {T : List qv_Ent} {t p : Nat} (hp : qv_rf T t 0 = p) (M : qv_Mem) (F : Nat → Int64) {a : Nat} (ha : a + 4 ≤ 16) : f_X7_divideByR T t (nI a) (zf M p F) = some (zf M p (z_dv F a)) := by
  unfold f_X7_divideByR
  simp (disch := omega) only [hp, zi_lit, nI_add, zi_ldL, zi_stL, zf_at, zf_up]
  congr 2
  funext j
  simp only [zu, z_dv, ← zi_lit]
  grind
def zb (A : zq_F) (n : Int) : Prop := ∀ i, i < 4 → (-n ≤ (zk A i).1 ∧ (zk A i).1 ≤ n) ∧ (-n ≤ (zk A i).2.1 ∧ (zk A i).2.1 ≤ n) ∧ (-n ≤ (zk A i).2.2.1 ∧ (zk A i).2.2.1 ≤ n) ∧ (-n ≤ (zk A i).2.2.2 ∧ (zk A i).2.2.2 ≤ n)
theorem zk_map (f : zq_N → zq_N) (A : zq_F) (i : Nat) : zk (zq_map f A) i = f (zk A i) := by
  unfold zk zq_map
  split
  · rfl
  · split
    · rfl
    · split <;> rfl
theorem zb_dv {A : zq_F} {n : Int} (h : zb A n) : zb (zq_map zq_dv A) n := by
  intro i hi
  obtain ⟨h1, h2, h3, h4⟩ := h i hi
  rw [zk_map]
  simp only [zq_dv]
  refine ⟨⟨?_, ?_⟩, ⟨?_, ?_⟩, ⟨?_, ?_⟩, ?_, ?_⟩ <;> omega
theorem zk_ev {A : zq_F} (h : zq_ov A = true) (i : Nat) : zq_ev (zk A i) = true := by
  simp only [zq_ov, Bool.and_eq_true] at h
  obtain ⟨e1, e2, e3, e4⟩ := h
  unfold zk
  split
  · exact e1
  · split
    · exact e2
    · split
      · exact e3
      · exact e4
/-- what is half done: i numbers of four -/
def z_dn (F : Nat → Int64) : Nat → Nat → Int64
  | 0 => F
  | n + 1 => z_dv (z_dn F n) (4 * n)
theorem z_dn_ge (F : Nat → Int64) : ∀ (n j : Nat), 4 * n ≤ j → z_dn F n j = F j
  | 0, _, _ => rfl
  | n + 1, j, h => by
    show z_dv (z_dn F n) (4 * n) j = F j
    unfold z_dv
    rw [if_neg (by omega), if_neg (by omega), if_neg (by omega), if_neg (by omega)]
    exact z_dn_ge F n j (by omega)
theorem z_dn_lt (F : Nat → Int64) : ∀ (n j : Nat), j < 4 * n → z_dn F n j = z_dv F (4 * (j / 4)) j
  | 0, j, h => by omega
  | n + 1, j, h => by
    show z_dv (z_dn F n) (4 * n) j = _
    by_cases hj : j < 4 * n
    · have : z_dv (z_dn F n) (4 * n) j = z_dn F n j := by
        unfold z_dv
        rw [if_neg (by omega), if_neg (by omega), if_neg (by omega), if_neg (by omega)]
      rw [this]
      exact z_dn_lt F n j hj
    · have e : j / 4 = n := by omega
      rw [e]
      unfold z_dv
      rw [z_dn_ge F n _ (by omega), z_dn_ge F n _ (by omega), z_dn_ge F n _ (by omega), z_dn_ge F n _ (by omega), z_dn_ge F n j (by omega)]
theorem zh_dv {F : Nat → Int64} {A : zq_F} (h : zh F A) (hb : zb A 2305843009213693952) (ho : zq_ov A = true) : zh (z_dn F 4) (zq_map zq_dv A) := by
  intro j hj
  rw [z_dn_lt F 4 j (by omega)]
  have hi : j / 4 < 4 := by omega
  obtain ⟨e0, e1, e2, e3⟩ := zh_at4 h hi
  obtain ⟨b0, b1, b2, b3⟩ := hb _ hi
  have hev := zk_ev ho (j / 4)
  simp only [zq_ev, Bool.and_eq_true, decide_eq_true_eq] at hev
  unfold zc
  rw [zk_map]
  unfold z_dv
  rw [e0, e1, e2, e3, ← Int64.ofInt_sub, ← Int64.ofInt_add, ← Int64.ofInt_add, ← Int64.ofInt_sub]
  have hm : j % 4 = 0 ∨ j % 4 = 1 ∨ j % 4 = 2 ∨ j % 4 = 3 := by omega
  rcases hm with hm | hm | hm | hm
  · rw [if_pos (by omega), hm, ze_div2 (by omega) (by omega) (by omega)]; rfl
  · rw [if_neg (by omega), if_pos (by omega), hm, ze_div2 (by omega) (by omega) (by omega)]; rfl
  · rw [if_neg (by omega), if_neg (by omega), if_pos (by omega), hm, ze_div2 (by omega) (by omega) (by omega)]; rfl
  · rw [if_neg (by omega), if_neg (by omega), if_neg (by omega), if_pos (by omega), hm, ze_div2 (by omega) (by omega) (by omega)]; rfl
theorem z_dvall {T : List qv_Ent} {t p : Nat} (hp : qv_rf T t 0 = p) (M : qv_Mem) (k : qv_Mem → Option qv_Mem) (f : Nat) (hf : 4 < f) : qv_lp2 (b_X7_lower_25 t T k) f (nI 0) M = k (zf M p (z_dn (M.2.1 p) 4)) := by
  have e : M = zf M p (z_dn (M.2.1 p) 0) := (zf_self M p).symm
  conv => lhs; rw [e]
  refine zfor2c (c := fun i => nI (4 * i)) (s := fun i => zf M p (z_dn (M.2.1 p) i)) 0 4 (by omega) (fun i r h0 hi => ?_) (fun r => ?_) f (by omega)
  · simp (disch := omega) only [b_X7_lower_25, zi_lit, nI_add, zi_le, z_divideByR hp, qv_bo]
    rw [if_neg (by omega)]
    rfl
  · simp (disch := omega) only [b_X7_lower_25, zi_lit, zi_le]
    rw [if_pos (by omega)]
/-- a table's cells: the object t, its longs p -/
def zT (M : qv_Mem) (t p : Nat) (A : zq_T) : Prop := zh (M.2.1 p) A.1 ∧ M.2.2 t 1 = nI A.2
/-- nothing else changed -/
def zo (M M1 : qv_Mem) (t p : Nat) : Prop := M1.1 = M.1 ∧ (∀ a, a ≠ p → M1.2.1 a = M.2.1 a) ∧ ∀ a k, ¬ (a = t ∧ k = 1) → M1.2.2 a k = M.2.2 a k
theorem zo.rf (M : qv_Mem) (t p : Nat) : zo M M t p := ⟨rfl, fun _ _ => rfl, fun _ _ _ => rfl⟩
theorem zo.tr {M M1 M2 : qv_Mem} {t p : Nat} (h : zo M M1 t p) (k : zo M1 M2 t p) : zo M M2 t p := ⟨k.1.trans h.1, fun a ha => (k.2.1 a ha).trans (h.2.1 a ha), fun a j hj => (k.2.2 a j hj).trans (h.2.2 a j hj)⟩
theorem zo_zf (M : qv_Mem) (t p : Nat) (F : Nat → Int64) : zo M (zf M p F) t p := ⟨rfl, fun a ha => by funext j; exact zf_ne ha j, fun _ _ _ => rfl⟩
theorem zo_S (M : qv_Mem) (t p : Nat) (v : Int32) : zo M (qv_upS M t 1 v) t p := ⟨rfl, fun _ _ => rfl, fun a k h => zs_ne2 h⟩
theorem z_lower_s0 {T : List qv_Ent} {t i : Nat} {M : qv_Mem} (k : qv_Mem → Option qv_Mem) (r : Int32 → qv_Mem → Option qv_Mem) (h : M.2.2 t 1 = nI 0) (hi : i < 1000) : b_X7_lower_2 t T k r (nI i) M = k M := by
  unfold b_X7_lower_2
  generalize qv_N = N
  simp (disch := omega) only [zi_lit, zi_le, qv_gS, h]
  rw [if_neg (by omega), if_pos (by omega)]
theorem z_lower_s1 {T : List qv_Ent} {t p i e : Nat} (hp : qv_rf T t 0 = p) {M : qv_Mem} {A : zq_F} (k : qv_Mem → Option qv_Mem) (r : Int32 → qv_Mem → Option qv_Mem) (h : zT M t p (A, e + 1)) (hi : i + e < 1000) (he : i < 1000) : b_X7_lower_2 t T k r (nI i) M = if zq_ov A = true then r (nI (i + 1)) (qv_upS (zf M p (z_dn (M.2.1 p) 4)) t 1 (nI e)) else k M := by
  have h2 : M.2.2 t 1 = nI (e + 1) := h.2
  have e1 : (nI (e + 1) - nI 1 : Int32) = nI e := nI_pred e
  have e2 : ¬ (nI 1 : Int32) = nI 0 := by decide
  unfold b_X7_lower_2
  simp (disch := omega) only [zi_lit, zi_le, qv_gS, h2, z_isMultipleOfR hp M h.1, qv_bo, qv_jn, z_dvall hp M _ qv_N (qv_N_gt _ (by decide)), qv_pS, zf_s, e1, nI_add]
  rw [if_neg (by omega), if_neg (by omega)]
  by_cases ho : zq_ov A = true
  · rw [if_pos ho, if_pos ho, if_neg e2]
  · rw [if_neg ho, if_neg ho, if_pos rfl]
theorem z_lower_lp {T : List qv_Ent} {t p : Nat} (hp : qv_rf T t 0 = p) (k : qv_Mem → Option qv_Mem) (e : Nat) : ∀ (i : Nat) (M : qv_Mem) (A : zq_F) (f : Nat), zT M t p (A, e) → zb A 2305843009213693952 → i + e < 1000 → e < f → ∃ M1, qv_lp2 (b_X7_lower_2 t T k) f (nI i) M = k M1 ∧ zT M1 t p (zq_lowF e A) ∧ zo M M1 t p := by
  induction e with
  | zero =>
    intro i M A f h hb hi hf
    obtain ⟨f, rfl⟩ : ∃ g, f = g + 1 := ⟨f - 1, by omega⟩
    exact ⟨M, by rw [zN2, z_lower_s0 k _ h.2 (by omega)], h, zo.rf M t p⟩
  | succ e ih =>
    intro i M A f h hb hi hf
    obtain ⟨f, rfl⟩ : ∃ g, f = g + 1 := ⟨f - 1, by omega⟩
    rw [zN2, z_lower_s1 hp k _ h (by omega) (by omega)]
    unfold zq_lowF
    by_cases ho : zq_ov A = true
    · rw [if_pos ho, if_pos ho]
      have hT1 : zT (qv_upS (zf M p (z_dn (M.2.1 p) 4)) t 1 (nI e)) t p (zq_map zq_dv A, e) := by
        refine ⟨?_, zs_at _ _ _ _⟩
        show zh ((zf M p (z_dn (M.2.1 p) 4)).2.1 p) _
        have : (zf M p (z_dn (M.2.1 p) 4)).2.1 p = z_dn (M.2.1 p) 4 := by funext j; exact zf_at _ _ _ j
        rw [this]
        exact zh_dv h.1 hb ho
      obtain ⟨M1, g1, g2, g3⟩ := ih (i + 1) _ _ f hT1 (zb_dv hb) (by omega) (by omega)
      exact ⟨M1, g1, g2, ((zo_zf M t p _).tr (zo_S _ t p _)).tr g3⟩
    · rw [if_neg ho, if_neg ho]
      exact ⟨M, rfl, h, zo.rf M t p⟩
theorem z_lower {T : List qv_Ent} {t p : Nat} (hp : qv_rf T t 0 = p) {M : qv_Mem} {A : zq_T} (h : zT M t p A) (hb : zb A.1 2305843009213693952) (he : A.2 < 1000) : ∃ M1, f_X7_lower T t M = some M1 ∧ zT M1 t p (zq_low A) ∧ zo M M1 t p := by
  unfold f_X7_lower qv_jn
  rw [zi_0]
  exact z_lower_lp hp (fun M1 => some M1) A.2 0 M A.1 qv_N h hb (by omega) (qv_N_gt _ (by omega))
