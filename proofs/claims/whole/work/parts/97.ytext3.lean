/-! write: the reference's items and its call. -/
def b01 (N : qv_Mem) : Prop := N.2.2 106 27 = 0 ∨ N.2.2 106 27 = 1
theorem yst.b {M : qv_Mem} {p o m : Nat} {v : Option (List Nat)} (h : yst M p o m v) : b01 M := by
  unfold b01
  rw [h.2.2.2.1]
  cases v with
  | none => exact Or.inr rfl
  | some l => exact Or.inl rfl
def lok (w : Option (List Nat)) : Prop := ∀ x, w = some x → x.length ≤ 60 ∧ ∀ g ∈ x, g < 7
def yri (n : Nat) : Prop := ∀ B, zBk B → ∀ p o m v M, o ≤ 4 → 2 * (B.length - p) + 1 ≤ n → bgn B p o = true → yTp M B → yst M p o m v → m ≤ 420 → (∀ l, v = some l → m ≤ 60 * (o + 1)) → ∃ N m2, (f_it n).1 qv_TT 106 M = some (y_b2i ((pIt B n).1 p o).1, N) ∧ yrf M N ∧ N.2.2 106 25 = nI ((pIt B n).1 p o).2.1 ∧ b01 N ∧ (((pIt B n).1 p o).1 = true → lok ((pIt B n).1 p o).2.2 ∧ yst N ((pIt B n).1 p o).2.1 o m2 (vap v ((pIt B n).1 p o).2.2) ∧ m ≤ m2 ∧ m2 ≤ 420)
def yrs (n : Nat) : Prop := ∀ B, zBk B → ∀ p o m v M, o ≤ 4 → p ≤ B.length → 2 * (B.length - p) + 2 ≤ n → yTp M B → yst M p o m v → m ≤ 420 → (∀ l, v = some l → m ≤ 60 * o) → ∃ N m2, (f_it n).2 qv_TT 106 M = some (y_b2i ((pIt B n).2 p o).1, N) ∧ yrf M N ∧ N.2.2 106 25 = nI ((pIt B n).2 p o).2.1 ∧ b01 N ∧ (((pIt B n).2 p o).1 = true → lok ((pIt B n).2 p o).2.2 ∧ yst N ((pIt B n).2 p o).2.1 o m2 (vap v ((pIt B n).2 p o).2.2) ∧ m ≤ m2 ∧ m2 ≤ 420)
theorem catO_ok {a w : Option (List Nat)} (ha : lok a) (hw : lok w) : lok (catO a w) := by
  intro x hx
  cases a with
  | none => cases hx
  | some c =>
    cases w with
    | none => cases hx
    | some y =>
      have hx2 : (if (c ++ y).length ≤ 60 then some (c ++ y) else none) = some x := hx
      by_cases d : (c ++ y).length ≤ 60
      · rw [if_pos d] at hx2
        have e := Option.some.inj hx2
        rw [← e]
        exact ⟨d, fun g hg => (List.mem_append.mp hg).elim ((ha c rfl).2 g) ((hw y rfl).2 g)⟩
      · rw [if_neg d] at hx2
        cases hx2
theorem vap_len {v w : Option (List Nat)} {l : List Nat} (h : vap v w = some l) : ∃ a x, v = some a ∧ w = some x ∧ l = a ++ x := by
  cases v with
  | none => cases h
  | some a =>
    cases w with
    | none => cases h
    | some x => exact ⟨a, x, rfl, rfl, (Option.some.inj h).symm⟩
theorem yrv_len {M : qv_Mem} {m : Nat} {v : Option (List Nat)} (h : yrv M m v) {l : List Nat} (e : v = some l) : l.length = m := (h.2.2 l e).1
theorem y_loop {n : Nat} (hI : yri n) {B : List Nat} (hk : zBk B) {o : Nat} (ho : o ≤ 4) {v : Option (List Nat)} {m0 : Nat} (hv : ∀ l, v = some l → l.length = m0 ∧ m0 ≤ 60 * o) (hm0 : m0 ≤ 420) (hF : FI B (pIt B n).1 n) (kk : Int32 → qv_Mem → Option (Int32 × qv_Mem)) : ∀ (j p f : Nat) (M : qv_Mem) (m : Nat) (acc : Option (List Nat)), p ≤ B.length → 2 * (B.length - p) + 1 ≤ n → B.length - p < j → j < f → yTp M B → yst M p o m (vap v acc) → m0 ≤ m → m ≤ 420 → lok acc → ∃ N m2, qv_lp2 (b_X10_items_16 106 qv_TT (f_it n).1 (nI m0) kk) f 1 M = kk (y_b2i (pLp B (pIt B n).1 o j p acc).1) N ∧ yrf M N ∧ N.2.2 106 25 = nI (pLp B (pIt B n).1 o j p acc).2.1 ∧ b01 N ∧ ((pLp B (pIt B n).1 o j p acc).1 = true → lok (pLp B (pIt B n).1 o j p acc).2.2 ∧ yst N (pLp B (pIt B n).1 o j p acc).2.1 o m2 (vap v (pLp B (pIt B n).1 o j p acc).2.2) ∧ m0 ≤ m2 ∧ m2 ≤ 420) := by
  have h80 := hk.1
  intro j
  induction j with
  | zero => intro p f M m acc hp hn hj; omega
  | succ j ih =>
    intro p f M m acc hp hn hj hf hT hS hmm hm ha
    obtain ⟨f, rfl⟩ : ∃ g, f = g + 2 := ⟨f - 2, by omega⟩
    rw [zN2]
    have ih1 := ih
    unfold b_X10_items_16 pLp
    rw [if_neg zl1n0, y_begins hk hT (by omega) ho hS.1 hS.2.1, zbo]
    by_cases c : bgn B p o = true
    · rw [if_pos c, if_neg zl1n0, if_pos c]
      have hlv : ∀ l, vap v acc = some l → m ≤ 60 * (o + 1) := fun l hl => by
        obtain ⟨a, x, e1, e2, e3⟩ := vap_len hl
        have q1 := yrv_len hS.2.2 hl
        have q2 := (hv a e1).1
        have q3 := (hv a e1).2
        have q4 := (ha x e2).1
        rw [e3, List.length_append] at q1
        omega
      obtain ⟨N, m2, e1, f1, p1, bb1, r1⟩ := hI B hk p o m (vap v acc) M ho hn c hT hS hm hlv
      rw [e1, zbp]
      by_cases d : ((pIt B n).1 p o).1 = true
      · obtain ⟨w1, w2, w3, w4⟩ := r1 d
        obtain ⟨-, j2, j3, -⟩ := (hF p o true ho hn c).1 d
        rw [if_pos d, d]
        show ∃ N_1 m2, qv_gS 106 27 N _ = _ ∧ _
        rw [zgS, w2.2.2.2.1, zgS, w2.2.2.1, zi_sub (by omega) (by omega), zjn, zl60]
        have step : ∀ b : Int32, (b = 0 ∨ b = 1) → yst (qv_upS N 106 27 (sv (vap (vap v acc) ((pIt B n).1 p o).2.2) ||| b)) ((pIt B n).1 p o).2.1 o m2 (vap v (catO acc ((pIt B n).1 p o).2.2)) → ∃ N_1 m2, qv_pZ 106 27 (sv (vap (vap v acc) ((pIt B n).1 p o).2.2) ||| b) N (fun M16 => qv_lp2 (b_X10_items_16 106 qv_TT (f_it n).1 (nI m0) kk) (f + 1) 1 M16) = kk (y_b2i (pLp B (pIt B n).1 o j ((pIt B n).1 p o).2.1 (catO acc ((pIt B n).1 p o).2.2)).1) N_1 ∧ yrf M N_1 ∧ N_1.2.2 106 25 = nI (pLp B (pIt B n).1 o j ((pIt B n).1 p o).2.1 (catO acc ((pIt B n).1 p o).2.2)).2.1 ∧ b01 N_1 ∧ ((pLp B (pIt B n).1 o j ((pIt B n).1 p o).2.1 (catO acc ((pIt B n).1 p o).2.2)).1 = true → lok (pLp B (pIt B n).1 o j ((pIt B n).1 p o).2.1 (catO acc ((pIt B n).1 p o).2.2)).2.2 ∧ yst N_1 (pLp B (pIt B n).1 o j ((pIt B n).1 p o).2.1 (catO acc ((pIt B n).1 p o).2.2)).2.1 o m2 (vap v (pLp B (pIt B n).1 o j ((pIt B n).1 p o).2.1 (catO acc ((pIt B n).1 p o).2.2)).2.2) ∧ m0 ≤ m2 ∧ m2 ≤ 420) := by
          intro b hb2 hst
          rw [zpZx (y_pz _ b hb2).1]
          have f2 : yrf M (qv_upS N 106 27 (sv (vap (vap v acc) ((pIt B n).1 p o).2.2) ||| b)) := f1.tr (yrf_s (by omega))
          obtain ⟨Q, m3, e5, g1, g2, g22, g3⟩ := ih1 ((pIt B n).1 p o).2.1 (f + 1) _ m2 (catO acc ((pIt B n).1 p o).2.2) j3 (by omega) (by omega) (by omega) (hT.rf f2) hst (by omega) w4 (catO_ok ha w1)
          exact ⟨Q, m3, e5, f2.tr g1, g2, g22, g3⟩
        have ys : ∀ (b : Int32) (u : Option (List Nat)), (sv (vap (vap v acc) ((pIt B n).1 p o).2.2) ||| b) = sv u → (u = none ∨ u = vap (vap v acc) ((pIt B n).1 p o).2.2) → yst (qv_upS N 106 27 (sv (vap (vap v acc) ((pIt B n).1 p o).2.2) ||| b)) ((pIt B n).1 p o).2.1 o m2 u := by
          intro b u hu hu2
          refine ⟨by rw [zs_ne2 (by omega)]; exact w2.1, by rw [zs_ne2 (by omega)]; exact w2.2.1, by rw [zs_ne2 (by omega)]; exact w2.2.2.1, by rw [zs_at]; exact hu, fun l hl => ?_⟩
          rcases hu2 with z | z
          · rw [z] at hl; cases hl
          · rw [z] at hl
            exact w2.2.2.2.2 l hl
        by_cases g : m2 - m0 ≤ 60
        · rw [if_pos (nI_le g (by omega))]
          dsimp only
          refine step 0 (Or.inl rfl) (ys 0 _ ?_ ?_)
          · rw [(y_pz _ 0 (Or.inl rfl)).2, if_pos rfl]
            cases e2 : vap (vap v acc) ((pIt B n).1 p o).2.2 with
            | none =>
              cases v with
              | none => rfl
              | some l0 =>
                cases acc with
                | none => rfl
                | some a =>
                  cases e3 : ((pIt B n).1 p o).2.2 with
                  | none => rfl
                  | some x =>
                    rw [e3] at e2
                    cases e2
            | some l =>
              obtain ⟨la, x, q1, q2, q3⟩ := vap_len e2
              obtain ⟨l0, a, q4, q5, q6⟩ := vap_len q1
              have ln := yrv_len w2.2.2 e2
              rw [q3, q6, List.length_append, List.length_append, (hv l0 q4).1] at ln
              rw [q4, q5, q2]
              show (0 : Int32) = sv (vap (some l0) (if (a ++ x).length ≤ 60 then some (a ++ x) else none))
              rw [if_pos (by rw [List.length_append]; omega)]
              rfl
          · cases e2 : vap (vap v acc) ((pIt B n).1 p o).2.2 with
            | none =>
              left
              cases v with
              | none => rfl
              | some l0 =>
                cases acc with
                | none => rfl
                | some a =>
                  cases e3 : ((pIt B n).1 p o).2.2 with
                  | none => rfl
                  | some x =>
                    rw [e3] at e2
                    cases e2
            | some l =>
              right
              obtain ⟨la, x, q1, q2, q3⟩ := vap_len e2
              obtain ⟨l0, a, q4, q5, q6⟩ := vap_len q1
              have ln := yrv_len w2.2.2 e2
              rw [q3, q6, List.length_append, List.length_append, (hv l0 q4).1] at ln
              rw [q4, q5, q2, q3, q6]
              show vap (some l0) (if (a ++ x).length ≤ 60 then some (a ++ x) else none) = _
              rw [if_pos (by rw [List.length_append]; omega), List.append_assoc]
              rfl
        · rw [if_neg (zi_nle (a := m2 - m0) (b := 60) (by omega) (by omega))]
          dsimp only
          have un : vap v (catO acc ((pIt B n).1 p o).2.2) = none := by
            cases e2 : vap v (catO acc ((pIt B n).1 p o).2.2) with
            | none => rfl
            | some l =>
              exfalso
              obtain ⟨l0, y, q1, q2, q3⟩ := vap_len e2
              cases acc with
              | none => cases q2
              | some a =>
                cases e3 : ((pIt B n).1 p o).2.2 with
                | none => rw [e3] at q2; cases q2
                | some x =>
                  rw [e3] at q2
                  have q4 : (if (a ++ x).length ≤ 60 then some (a ++ x) else none) = some y := q2
                  by_cases z : (a ++ x).length ≤ 60
                  · have e4 : vap (vap v (some a)) ((pIt B n).1 p o).2.2 = some ((l0 ++ a) ++ x) := by rw [q1, e3]; rfl
                    have ln := yrv_len w2.2.2 e4
                    rw [List.length_append, List.length_append, (hv l0 q1).1] at ln
                    rw [List.length_append] at z
                    omega
                  · rw [if_neg z] at q4; cases q4
          refine step 1 (Or.inr rfl) (ys 1 _ ?_ (Or.inl un))
          rw [(y_pz _ 1 (Or.inr rfl)).2, if_neg zl1n0, un]
          rfl
      · rw [if_neg d]
        rw [Bool.not_eq_true] at d
        rw [d]
        rw [zgS, zgS, zjn]
        have z0 : ∀ Q : qv_Mem, qv_lp2 (b_X10_items_16 106 qv_TT (f_it n).1 (nI m0) kk) (f + 1) 0 Q = kk 0 Q := fun Q => by
          rw [zN2]
          unfold b_X10_items_16
          rw [if_pos rfl]
        have fin : ∀ b : Int32, (b = 0 ∨ b = 1) → ∃ N_1 m2, qv_pZ 106 27 (N.2.2 106 27 ||| b) N (fun M16 => qv_lp2 (b_X10_items_16 106 qv_TT (f_it n).1 (nI m0) kk) (f + 1) 0 M16) = kk (y_b2i (false, ((pIt B n).1 p o).2.1, (none : Option (List Nat))).1) N_1 ∧ yrf M N_1 ∧ N_1.2.2 106 25 = nI (false, ((pIt B n).1 p o).2.1, (none : Option (List Nat))).2.1 ∧ b01 N_1 ∧ ((false, ((pIt B n).1 p o).2.1, (none : Option (List Nat))).1 = true → lok (false, ((pIt B n).1 p o).2.1, (none : Option (List Nat))).2.2 ∧ yst N_1 (false, ((pIt B n).1 p o).2.1, (none : Option (List Nat))).2.1 o m2 (vap v (false, ((pIt B n).1 p o).2.1, (none : Option (List Nat))).2.2) ∧ m0 ≤ m2 ∧ m2 ≤ 420) := by
          intro b hb2
          have h01 : (N.2.2 106 27 ||| b) = 0 ∨ (N.2.2 106 27 ||| b) = 1 := by
            rcases bb1 with q | q <;> rcases hb2 with w | w <;> rw [q, w] <;> decide
          rw [zpZx (z01' h01), z0]
          exact ⟨_, 0, rfl, f1.tr (yrf_s (by omega)), by rw [zs_ne2 (by omega)]; exact p1, by unfold b01; rw [zs_at]; exact h01, fun q => (by cases q)⟩
        by_cases g : (N.2.2 106 18 - nI m0) ≤ 60
        · rw [if_pos g]
          exact fin 0 (Or.inl rfl)
        · rw [if_neg g]
          exact fin 1 (Or.inr rfl)
    · rw [if_neg c, if_pos rfl, if_neg c]
      exact ⟨M, m, rfl, yrf.rf _, hS.1, hS.b, fun _ => ⟨ha, hS, hmm, hm⟩⟩
