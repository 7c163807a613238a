/-! The reference's products. -/
def y_aq (o : Nat) (x y : Nat → Int64) (p : Nat) (F : Nat → Int64) : Nat → Nat → Int64
  | 0 => F
  | n + 1 => zu (y_aq o x y p F n) (o + (p + n) % 4) (y_aq o x y p F n (o + (p + n) % 4) + (if 4 ≤ p + n then -(x p * y n) else x p * y n))
def y_ap (o : Nat) (x y : Nat → Int64) (F : Nat → Int64) : Nat → Nat → Int64
  | 0 => F
  | n + 1 => y_aq o x y n (y_ap o x y F n) 4
theorem y_aq_out {o : Nat} {x y : Nat → Int64} {p : Nat} {F : Nat → Int64} : ∀ (n j : Nat), (j < o ∨ o + 4 ≤ j) → y_aq o x y p F n j = F j
  | 0, _, _ => rfl
  | n + 1, j, h => by
    show zu _ _ _ j = _
    unfold zu
    rw [if_neg (by omega)]
    exact y_aq_out n j h
theorem y_ap_out {o : Nat} {x y : Nat → Int64} {F : Nat → Int64} : ∀ (n j : Nat), (j < o ∨ o + 4 ≤ j) → y_ap o x y F n j = F j
  | 0, _, _ => rfl
  | n + 1, j, h => by
    show y_aq o x y n (y_ap o x y F n) 4 j = _
    rw [y_aq_out 4 j h]
    exact y_ap_out n j h
set_option maxHeartbeats 4000000 in
theorem y_ap_ad (o : Nat) (x y : Nat → Int64) (F : Nat → Int64) : y_ap o x y F 4 = z_ad F o x y := by
  funext j
  by_cases h : j < o ∨ o + 4 ≤ j
  · rw [y_ap_out 4 j h]
    unfold z_ad
    rw [if_neg (by omega), if_neg (by omega), if_neg (by omega), if_neg (by omega)]
  · have hj : j = o + 0 ∨ j = o + 1 ∨ j = o + 2 ∨ j = o + 3 := by omega
    rcases hj with rfl | rfl | rfl | rfl
    · simp [y_ap, y_aq, zu, z_ad]
      grind
    · simp [y_ap, y_aq, zu, z_ad]
      grind
    · simp [y_ap, y_aq, zu, z_ad]
      grind
    · simp [y_ap, y_aq, zu, z_ad]
      grind
theorem y_ad12 {T : List qv_Ent} {t q : Nat} (hq : qv_rf T t 0 = q) (M : qv_Mem) (G : Nat → Int64) {pl a i b j p : Nat} (hpl : pl < 4) (hi : i < 4) (hj : j < 4) (ha : a < 19) (hb : b < 19) (hp : p < 4) {x y : Nat → Int64} (hx : ∀ k, k < 4 → G (17 * a + 4 * i + k) = x k) (hy : ∀ k, k < 4 → G (17 * b + 4 * j + k) = y k) (k : qv_Mem → Option qv_Mem) : qv_lp2 (b_X10_adds_12 t 19 (nI pl) (nI a) (nI i) (nI b) (nI j) T (nI p) k) qv_N (nI 0) (zf M q G) = k (zf M q (y_aq (323 + 4 * pl) x y p G 4)) := by
  refine zfor2 (s := fun n => zf M q (y_aq (323 + 4 * pl) x y p G n)) (k := k) 0 4 (by omega) (fun n r h0 hn => ?_) (fun r => ?_) qv_N (qv_N_gt _ (by decide))
  · unfold b_X10_adds_12
    have hix : (((17 * 19) + (4 * nI pl)) + ((nI p + nI n) - (nI p + nI n) / 4 * 4) : Int32) = nI (323 + 4 * pl + (p + n) % 4) := by
      rw [nI_add, show (4 : Int32) = nI 4 from rfl, pk_rem (by omega) (by omega) (by omega), pk_mul, show (17 * 19 : Int32) = nI 323 from by decide, nI_add, nI_add]
    rw [if_neg (show ¬ (4 : Int32) ≤ nI n from zi_nle (a := 4) (b := n) (by omega) (by omega)), y_at hq _ (by omega), zbo, y_at hq _ (by omega), zbo, hix, hq, zi_ldL (by omega) (by omega), zjn]
    simp only [zf_at, zi_stL (show 323 + 4 * pl + (p + n) % 4 < 340 by omega) (show 340 ≤ 100000 by omega), zf_up]
    have g1 : y_aq (323 + 4 * pl) x y p G n (17 * a + 4 * i + p) = x p := by rw [y_aq_out n _ (by omega)]; exact hx p hp
    have g2 : y_aq (323 + 4 * pl) x y p G n (17 * b + 4 * j + n) = y n := by rw [y_aq_out n _ (by omega)]; exact hy n hn
    rw [g1, g2, show (1 : Int32) = nI 1 from rfl, nI_add, nI_add]
    show (if nI 4 ≤ nI (p + n) then _ else _) = r (nI (n + 1)) (zf M q (zu (y_aq (323 + 4 * pl) x y p G n) (323 + 4 * pl + (p + n) % 4) (y_aq (323 + 4 * pl) x y p G n (323 + 4 * pl + (p + n) % 4) + (if 4 ≤ p + n then -(x p * y n) else x p * y n))))
    by_cases h4 : 4 ≤ p + n
    · rw [if_pos (show nI 4 ≤ nI (p + n) by rw [zi_le (by omega) (by omega)]; exact h4), if_pos h4]
    · rw [if_neg (show ¬ nI 4 ≤ nI (p + n) by rw [zi_le (by omega) (by omega)]; exact h4), if_neg h4]
  · unfold b_X10_adds_12
    rw [if_pos (show (4 : Int32) ≤ nI 4 from by decide)]
theorem y_adds {T : List qv_Ent} {t q : Nat} (hq : qv_rf T t 0 = q) (M : qv_Mem) (G : Nat → Int64) {pl a i b j : Nat} (hpl : pl < 4) (hi : i < 4) (hj : j < 4) (ha : a < 19) (hb : b < 19) : f_X10_adds T t 19 (nI pl) (nI a) (nI i) (nI b) (nI j) (zf M q G) = some (zf M q (z_ad G (323 + 4 * pl) (fun k => G (17 * a + 4 * i + k)) (fun k => G (17 * b + 4 * j + k)))) := by
  unfold f_X10_adds
  rw [zjn, zi_0, ← y_ap_ad]
  refine zfor2 (s := fun n => zf M q (y_ap (323 + 4 * pl) (fun k => G (17 * a + 4 * i + k)) (fun k => G (17 * b + 4 * j + k)) G n)) (k := fun M1 => some M1) 0 4 (by omega) (fun n r h0 hn => ?_) (fun r => ?_) qv_N (qv_N_gt _ (by decide))
  · unfold b_X10_adds_3
    rw [if_neg (show ¬ (4 : Int32) ≤ nI n from zi_nle (a := 4) (b := n) (by omega) (by omega)), zjn, zi_0, y_ad12 hq M _ hpl hi hj ha hb hn (x := fun k => G (17 * a + 4 * i + k)) (y := fun k => G (17 * b + 4 * j + k)) (fun k hk => y_ap_out n _ (by omega)) (fun k hk => y_ap_out n _ (by omega)), show (1 : Int32) = nI 1 from rfl, nI_add]
    rfl
  · unfold b_X10_adds_3
    rw [if_pos (show (4 : Int32) ≤ nI 4 from by decide)]
def y_pc (x y : Nat → Int64) (r : Nat) (F : Nat → Int64) : Nat → Nat → Int64
  | 0 => F
  | c + 1 => z_ad (z_ad (y_pc x y r F c) (323 + (8 * r + 4 * c)) (fun k => x (8 * r + k)) (fun k => y (4 * c + k))) (323 + (8 * r + 4 * c)) (fun k => x (8 * r + 4 + k)) (fun k => y (8 + 4 * c + k))
def y_pr (x y : Nat → Int64) (F : Nat → Int64) : Nat → Nat → Int64
  | 0 => F
  | r + 1 => y_pc x y r (y_pr x y F r) 2
theorem z_ad_out {F : Nat → Int64} {o : Nat} {x y : Nat → Int64} {j : Nat} (h : j < o ∨ o + 4 ≤ j) : z_ad F o x y j = F j := by
  unfold z_ad
  rw [if_neg (by omega), if_neg (by omega), if_neg (by omega), if_neg (by omega)]
theorem y_pc_out {x y : Nat → Int64} {r : Nat} (hr : r < 2) {F : Nat → Int64} {j : Nat} (h : j < 323 ∨ 339 ≤ j) : ∀ c, c ≤ 2 → y_pc x y r F c j = F j
  | 0, _ => rfl
  | c + 1, hc => by
    show z_ad _ _ _ _ j = _
    rw [z_ad_out (by omega), z_ad_out (by omega)]
    exact y_pc_out hr h c (by omega)
theorem y_pr_out {x y : Nat → Int64} {F : Nat → Int64} {j : Nat} (h : j < 323 ∨ 339 ≤ j) : ∀ r, r ≤ 2 → y_pr x y F r j = F j
  | 0, _ => rfl
  | r + 1, hr => by
    show y_pc x y r (y_pr x y F r) 2 j = _
    rw [y_pc_out (by omega) h 2 (by omega)]
    exact y_pr_out h r (by omega)
theorem z_ad_sh (F : Nat → Int64) (o : Nat) (x y : Nat → Int64) : (fun j => z_ad F (323 + o) x y (323 + j)) = z_ad (fun j => F (323 + j)) o x y := by
  funext j
  unfold z_ad
  have c0 : (323 + j = 323 + o) = (j = o) := propext ⟨fun h => by omega, fun h => by omega⟩
  have c1 : (323 + j = 323 + o + 1) = (j = o + 1) := propext ⟨fun h => by omega, fun h => by omega⟩
  have c2 : (323 + j = 323 + o + 2) = (j = o + 2) := propext ⟨fun h => by omega, fun h => by omega⟩
  have c3 : (323 + j = 323 + o + 3) = (j = o + 3) := propext ⟨fun h => by omega, fun h => by omega⟩
  simp only [c0, c1, c2, c3]
theorem y_pc_sh (x y : Nat → Int64) (r : Nat) (F : Nat → Int64) : ∀ c, (fun j => y_pc x y r F c (323 + j)) = z_pc x y r (fun j => F (323 + j)) c
  | 0 => rfl
  | c + 1 => by
    show (fun j => z_ad (z_ad (y_pc x y r F c) _ _ _) _ _ _ (323 + j)) = z_ad (z_ad (z_pc x y r (fun j => F (323 + j)) c) _ _ _) _ _ _
    rw [z_ad_sh, z_ad_sh, y_pc_sh x y r F c]
theorem y_pr_sh (x y : Nat → Int64) (F : Nat → Int64) : ∀ r, (fun j => y_pr x y F r (323 + j)) = z_pr x y (fun j => F (323 + j)) r
  | 0 => rfl
  | r + 1 => by
    show (fun j => y_pc x y r (y_pr x y F r) 2 (323 + j)) = z_pc x y r (z_pr x y (fun j => F (323 + j)) r) 2
    rw [y_pc_sh, y_pr_sh x y F r]
theorem z_ad_cg {F : Nat → Int64} {o : Nat} {x y x1 y1 : Nat → Int64} (hx : ∀ k, k < 4 → x k = x1 k) (hy : ∀ k, k < 4 → y k = y1 k) : z_ad F o x y = z_ad F o x1 y1 := by
  funext j
  unfold z_ad
  rw [hx 0 (by omega), hx 1 (by omega), hx 2 (by omega), hx 3 (by omega), hy 0 (by omega), hy 1 (by omega), hy 2 (by omega), hy 3 (by omega)]
theorem y_p40 {T : List qv_Ent} {t q : Nat} (hq : qv_rf T t 0 = q) (M : qv_Mem) (G : Nat → Int64) {a b r : Nat} (ha : a < 19) (hb : b < 19) (hr : r < 2) {x y : Nat → Int64} (hx : ∀ k, k < 17 → G (17 * a + k) = x k) (hy : ∀ k, k < 17 → G (17 * b + k) = y k) (k : qv_Mem → Option qv_Mem) : qv_lp2 (b_X10_plainly_40 t (nI a) (nI b) T (nI r) k) qv_N (nI 0) (zf M q G) = k (zf M q (y_pc x y r G 2)) := by
  refine zfor2 (s := fun c => zf M q (y_pc x y r G c)) (k := k) 0 2 (by omega) (fun c rr h0 hc => ?_) (fun rr => ?_) qv_N (qv_N_gt _ (by decide))
  · unfold b_X10_plainly_40
    have ho : ∀ j, j < 323 → y_pc x y r G c j = G j := fun j hj => y_pc_out hr (Or.inl hj) c (by omega)
    rw [if_neg (show ¬ (2 : Int32) ≤ nI c from zi_nle (a := 2) (b := c) (by omega) (by omega)), show (2 : Int32) = nI 2 from rfl, show (1 : Int32) = nI 1 from rfl, pk_mul, nI_add, nI_add, nI_add, y_adds hq M _ (by omega) (by omega) (by omega) ha hb, zbo, y_adds hq M _ (by omega) (by omega) (by omega) ha hb, zbo, nI_add]
    congr 2
    show z_ad (z_ad (y_pc x y r G c) (323 + 4 * (2 * r + c)) _ _) (323 + 4 * (2 * r + c)) _ _ = z_ad (z_ad (y_pc x y r G c) (323 + (8 * r + 4 * c)) (fun k => x (8 * r + k)) (fun k => y (4 * c + k))) (323 + (8 * r + 4 * c)) (fun k => x (8 * r + 4 + k)) (fun k => y (8 + 4 * c + k))
    have e : 323 + 4 * (2 * r + c) = 323 + (8 * r + 4 * c) := by omega
    rw [e]
    have f1 : z_ad (y_pc x y r G c) (323 + (8 * r + 4 * c)) (fun k => y_pc x y r G c (17 * a + 4 * (2 * r) + k)) (fun k => y_pc x y r G c (17 * b + 4 * c + k)) = z_ad (y_pc x y r G c) (323 + (8 * r + 4 * c)) (fun k => x (8 * r + k)) (fun k => y (4 * c + k)) := by
      apply z_ad_cg
      · intro k hk
        show y_pc x y r G c (17 * a + 4 * (2 * r) + k) = x (8 * r + k)
        rw [ho _ (by omega), ← hx (8 * r + k) (by omega)]
        congr 1
        omega
      · intro k hk
        show y_pc x y r G c (17 * b + 4 * c + k) = y (4 * c + k)
        rw [ho _ (by omega), ← hy (4 * c + k) (by omega)]
        congr 1
        omega
    rw [f1]
    apply z_ad_cg
    · intro k hk
      show z_ad _ _ _ _ (17 * a + 4 * (2 * r + 1) + k) = x (8 * r + 4 + k)
      rw [z_ad_out (by omega), ho _ (by omega), ← hx (8 * r + 4 + k) (by omega)]
      congr 1
      omega
    · intro k hk
      show z_ad _ _ _ _ (17 * b + 4 * (2 + c) + k) = y (8 + 4 * c + k)
      rw [z_ad_out (by omega), ho _ (by omega), ← hy (8 + 4 * c + k) (by omega)]
      congr 1
      omega
  · unfold b_X10_plainly_40
    rw [if_pos (show (2 : Int32) ≤ nI 2 from by decide)]
theorem y_p31 {T : List qv_Ent} {t q : Nat} (hq : qv_rf T t 0 = q) (M : qv_Mem) (G : Nat → Int64) {a b : Nat} (ha : a < 19) (hb : b < 19) (k : qv_Mem → Option qv_Mem) : qv_lp2 (b_X10_plainly_31 t (nI a) (nI b) T k) qv_N (nI 0) (zf M q G) = k (zf M q (y_pr (fun k => G (17 * a + k)) (fun k => G (17 * b + k)) G 2)) := by
  refine zfor2 (s := fun r => zf M q (y_pr (fun k => G (17 * a + k)) (fun k => G (17 * b + k)) G r)) (k := k) 0 2 (by omega) (fun r rr h0 hr => ?_) (fun rr => ?_) qv_N (qv_N_gt _ (by decide))
  · unfold b_X10_plainly_31
    rw [if_neg (show ¬ (2 : Int32) ≤ nI r from zi_nle (a := 2) (b := r) (by omega) (by omega)), zjn, zi_0, y_p40 hq M _ ha hb hr (x := fun k => G (17 * a + k)) (y := fun k => G (17 * b + k)) (fun k hk => y_pr_out (Or.inl (by omega)) r (by omega)) (fun k hk => y_pr_out (Or.inl (by omega)) r (by omega)), show (1 : Int32) = nI 1 from rfl, nI_add]
    rfl
  · unfold b_X10_plainly_31
    rw [if_pos (show (2 : Int32) ≤ nI 2 from by decide)]
def y_cl (F : Nat → Int64) (n : Nat) : Nat → Int64 := fun j => if 323 ≤ j ∧ j < 323 + n then 0 else F j
theorem y_p3 {T : List qv_Ent} {t q : Nat} (hq : qv_rf T t 0 = q) (M : qv_Mem) (F : Nat → Int64) (k : qv_Mem → Option qv_Mem) : qv_lp2 (b_X10_plainly_3 t T k) qv_N (nI 0) (zf M q F) = k (zf M q (y_cl F 17)) := by
  have e0 : zf M q F = zf M q (y_cl F 0) := by
    congr 1
    funext j
    simp only [y_cl]
    rw [if_neg (by omega)]
  rw [e0]
  refine zfor2 (s := fun i => zf M q (y_cl F i)) (k := k) 0 17 (by omega) (fun i r h0 hi => ?_) (fun r => ?_) qv_N (qv_N_gt _ (by decide))
  · unfold b_X10_plainly_3
    rw [if_neg (show ¬ (17 : Int32) ≤ nI i from zi_nle (a := 17) (b := i) (by omega) (by omega)), show (323 : Int32) = nI 323 from rfl, show (1 : Int32) = nI 1 from rfl, nI_add, nI_add, hq, zi_stL (by omega) (by omega), zf_up]
    congr 2
    funext j
    simp only [zu, y_cl]
    grind
  · unfold b_X10_plainly_3
    rw [if_pos (show (17 : Int32) ≤ nI 17 from by decide)]
theorem y_e64 (n : Nat) (h : n < 2147483648) : (nI n).toInt64 = Int64.ofInt (n : Int) := nI_l h
theorem y_plainly {T : List qv_Ent} {t q : Nat} (hq : qv_rf T t 0 = q) {M : qv_Mem} {c a b : Nat} (hc : c < 19) (ha : a < 19) (hb : b < 19) {A B : zq_T} (hA : zS M q a A) (hB : zS M q b B) (eA : A.2 < 1000000) (eB : B.2 < 1000000) : ∃ M1, f_X10_plainly T t (nI c) (nI a) (nI b) M = some M1 ∧ zS M1 q c (zq_pm A B) ∧ zso M M1 q (fun s => s = c ∨ s = 19) := by
  have e : M = zf M q (M.2.1 q) := (zf_self M q).symm
  have k1 := y_p3 hq M (M.2.1 q) (fun M1 => qv_jn (fun M3 => qv_bo (f_X10_eOf T t (nI a) M3) (fun v5 => qv_bo (f_X10_eOf T t (nI b) M3) (fun v6 => qv_stL 340 (qv_rf T t 0) 339 ((v5 + v6).toInt64) M3 (fun M7 => qv_bo (f_X10_copies T t 19 (nI c) M7) (fun M8 => some M8))))) (fun k4 => qv_lp2 (b_X10_plainly_31 t (nI a) (nI b) T k4) qv_N 0 M1))
  rw [zf_self] at k1
  unfold f_X10_plainly
  rw [zjn, zi_0, ← zi_0, show (0 : Int32) = nI 0 from rfl] at *
  generalize hG : y_cl (M.2.1 q) 17 = G at k1
  have hG2 : ∀ j, (j < 323 ∨ 340 ≤ j) → G j = M.2.1 q j := fun j hj => by rw [← hG]; simp only [y_cl]; rw [if_neg (by omega)]
  have hG1 : ∀ j, j < 323 → G j = M.2.1 q j := fun j hj => hG2 j (Or.inl hj)
  rw [k1, y_p31 hq M G ha hb]
  generalize hP : y_pr (fun k => G (17 * a + k)) (fun k => G (17 * b + k)) G 2 = P
  have hP2 : ∀ j, (j < 323 ∨ 340 ≤ j) → P j = M.2.1 q j := fun j hj => by rw [← hP, y_pr_out (by omega) 2 (by omega)]; exact hG2 j hj
  have hP1 : ∀ j, j < 323 → P j = M.2.1 q j := fun j hj => hP2 j (Or.inl hj)
  have sA : zS (zf M q P) q a A := ⟨fun j hj => by show (zf M q P).2.1 q (17 * a + j) = _; rw [zf_at, hP1 _ (by omega)]; exact hA.1 j hj, by rw [zf_at, hP1 _ (by omega)]; exact hA.2⟩
  have sB : zS (zf M q P) q b B := ⟨fun j hj => by show (zf M q P).2.1 q (17 * b + j) = _; rw [zf_at, hP1 _ (by omega)]; exact hB.1 j hj, by rw [zf_at, hP1 _ (by omega)]; exact hB.2⟩
  have hprod : zh (fun j => P (323 + j)) (zq_pmF A.1 B.1) := by
    have h1 := y_pr_sh (fun k => G (17 * a + k)) (fun k => G (17 * b + k)) G 2
    rw [hP] at h1
    rw [h1]
    have h2 : (fun j => G (323 + j)) = z_cl (fun j => if j = 16 then 0 else G (323 + j)) 16 := by
      funext j
      rw [← hG]
      simp only [y_cl, z_cl]
      by_cases hj : j < 16
      · rw [if_pos (by omega), if_pos hj]
      · rw [if_neg hj]
        by_cases h16 : j = 16
        · rw [if_pos h16, if_pos (by omega)]
        · rw [if_neg h16]
    rw [h2]
    refine zh_prod (fun j hj => ?_) (fun j hj => ?_)
    · show G (17 * a + j) = _
      rw [hG1 _ (by omega)]
      exact hA.1 j hj
    · show G (17 * b + j) = _
      rw [hG1 _ (by omega)]
      exact hB.1 j hj
  rw [y_eOf hq (by omega) sA (by omega), zbo, y_eOf hq (by omega) sB (by omega), zbo, nI_add, y_e64 _ (by omega), hq, show (339 : Int32) = nI 339 from rfl, zi_stL (by omega) (by omega), zf_up]
  have s19 : zS (zf M q (zu P 339 (Int64.ofInt ((A.2 + B.2 : Nat) : Int)))) q 19 (zq_pm A B) := by
    refine ⟨fun j hj => ?_, ?_⟩
    · show (zf M q _).2.1 q (17 * 19 + j) = _
      rw [zf_at]
      simp only [zu]
      rw [if_neg (by omega)]
      exact hprod j hj
    · rw [zf_at]
      show (if 17 * 19 + 16 = 339 then Int64.ofInt ((A.2 + B.2 : Nat) : Int) else P (17 * 19 + 16)) = _
      rw [if_pos (by decide)]
      rfl
  obtain ⟨M2, g1, g2, g3⟩ := y_copies1 hq (zf M q (zu P 339 (Int64.ofInt ((A.2 + B.2 : Nat) : Int)))) (a := 19) (b := c) (by omega) (by omega) s19
  rw [show (19 : Int32) = nI 19 from rfl, g1, zbo]
  refine ⟨M2, rfl, g2, zso.tr (S1 := fun s => s = 19) (S2 := fun s => s = c) (zso_zf (fun s hs j hj => ?_)) g3 (fun s h => Or.inr h) (fun s h => Or.inl h)⟩
  simp only [zu]
  rw [if_neg (by omega)]
  exact hP2 _ (by omega)
theorem y_product {T : List qv_Ent} {t q : Nat} (hq : qv_rf T t 0 = q) {M : qv_Mem} {c a b : Nat} (hc : c < 19) (ha : a < 19) (hb : b < 19) {A B : zq_T} (hA : zS M q a A) (hB : zS M q b B) (eA : A.2 < 100000) (eB : B.2 < 100000) (hbd : zb (zq_pmF A.1 B.1) 2305843009213693952) : ∃ M1, f_X10_product T t (nI c) (nI a) (nI b) M = some M1 ∧ zS M1 q c (zq_lm A B) ∧ zso M M1 q (fun s => s = c ∨ s = 19) := by
  obtain ⟨M1, g1, g2, g3⟩ := y_plainly hq hc ha hb hA hB (by omega) (by omega)
  obtain ⟨M2, k1, k2, k3⟩ := y_lowers hq (s := c) (by omega) g2 hbd (by show A.2 + B.2 < 1000000; omega)
  unfold f_X10_product
  rw [g1, zbo, k1, zbo]
  exact ⟨M2, rfl, k2, zso.tr g3 k3 (fun _ h => h) (fun _ h => Or.inl h)⟩
/-! turned -/
def y_tn (F : Nat → Int64) (a : Nat) : Nat → Nat → Int64
  | 0 => F
  | n + 1 => z_tu (y_tn F a n) (323 + 4 * n) (fun k => F (17 * a + 4 * (if n = 1 then 2 else if n = 2 then 1 else n) + k))
theorem z_tu_out {F : Nat → Int64} {o : Nat} {x : Nat → Int64} {j : Nat} (h : j < o ∨ o + 4 ≤ j) : z_tu F o x j = F j := by
  unfold z_tu
  rw [if_neg (by omega), if_neg (by omega), if_neg (by omega), if_neg (by omega)]
theorem y_tn_out {F : Nat → Int64} {a j : Nat} (h : j < 323 ∨ 339 ≤ j) : ∀ n, n ≤ 4 → y_tn F a n j = F j
  | 0, _ => rfl
  | n + 1, hn => by
    show z_tu _ _ _ j = _
    rw [z_tu_out (by omega)]
    exact y_tn_out h n (by omega)
theorem y_tlp {T : List qv_Ent} {t q : Nat} (hq : qv_rf T t 0 = q) (M : qv_Mem) (F : Nat → Int64) {a : Nat} (ha : a < 19) (k : qv_Mem → Option qv_Mem) : qv_lp2 (b_X10_turns_2 t (nI a) T k) qv_N (nI 0) (zf M q F) = k (zf M q (y_tn F a 4)) := by
  refine zfor2 (s := fun i => zf M q (y_tn F a i)) (k := k) 0 4 (by omega) (fun n r h0 hn => ?_) (fun r => ?_) qv_N (qv_N_gt _ (by decide))
  · have st : ∀ o, o < 4 → (fun v9 : Int32 => qv_bo (f_X10_at T t (nI a) v9 0 (zf M q (y_tn F a n))) (fun v11 => qv_bo (f_X10_number T t 19 (nI n) 0 v11 (zf M q (y_tn F a n))) (fun M12 => qv_bo (f_X10_at T t (nI a) v9 3 M12) (fun v13 => qv_bo (f_X10_number T t 19 (nI n) 1 (-v13) M12) (fun M14 => qv_bo (f_X10_at T t (nI a) v9 2 M14) (fun v15 => qv_bo (f_X10_number T t 19 (nI n) 2 (-v15) M14) (fun M16 => qv_bo (f_X10_at T t (nI a) v9 1 M16) (fun v17 => qv_bo (f_X10_number T t 19 (nI n) 3 (-v17) M16) (fun M18 => r (nI n + 1) M18))))))))) (nI o) = r (nI (n + 1)) (zf M q (z_tu (y_tn F a n) (323 + 4 * n) (fun k => F (17 * a + 4 * o + k)))) := by
      intro o ho
      have hF : ∀ k, k < 4 → y_tn F a n (17 * a + 4 * o + k) = F (17 * a + 4 * o + k) := fun k hk => y_tn_out (Or.inl (by omega)) n (by omega)
      have h0 := hF 0 (by omega)
      have h1 := hF 1 (by omega)
      have h2 := hF 2 (by omega)
      have h3 := hF 3 (by omega)
      clear hF
      generalize y_tn F a n = G at h0 h1 h2 h3 ⊢
      show qv_bo (f_X10_at T t (nI a) (nI o) 0 (zf M q G)) _ = _
      rw [show (0 : Int32) = nI 0 from rfl, show (1 : Int32) = nI 1 from rfl, show (2 : Int32) = nI 2 from rfl, show (3 : Int32) = nI 3 from rfl, show (19 : Int32) = nI 19 from rfl, y_at hq _ (by omega), zbo, y_number hq M _ _ (by omega), zbo, y_at hq _ (by omega), zbo, y_number hq M _ _ (by omega), zbo, y_at hq _ (by omega), zbo, y_number hq M _ _ (by omega), zbo, y_at hq _ (by omega), zbo, y_number hq M _ _ (by omega), zbo, nI_add]
      simp only [zf_at]
      congr 2
      funext j
      have u : ∀ (i k : Nat) (v : Int64) (H : Nat → Int64), k < 4 → i < 4 → zu H (17 * 19 + 4 * n + k) v (17 * a + 4 * o + i) = H (17 * a + 4 * o + i) := fun i k v H hk hi => by unfold zu; rw [if_neg (by omega)]
      rw [u 3 0 _ _ (by omega) (by omega), u 2 1 _ _ (by omega) (by omega), u 2 0 _ _ (by omega) (by omega), u 1 2 _ _ (by omega) (by omega), u 1 1 _ _ (by omega) (by omega), u 1 0 _ _ (by omega) (by omega), h0, h1, h2, h3]
      rw [show 17 * 19 + 4 * n = 323 + 4 * n by omega]
      generalize 323 + 4 * n = w
      simp only [zu, z_tu, Nat.add_zero]
      grind
    unfold b_X10_turns_2
    rw [if_neg (show ¬ (4 : Int32) ≤ nI n from zi_nle (a := 4) (b := n) (by omega) (by omega)), zjn]
    show _ = r (nI (n + 1)) (zf M q (z_tu (y_tn F a n) (323 + 4 * n) (fun k => F (17 * a + 4 * (if n = 1 then 2 else if n = 2 then 1 else n) + k))))
    by_cases n1 : n = 1
    · rw [if_pos (show (nI n : Int32) = 1 by rw [n1]; rfl), if_pos n1]
      exact st 2 (by omega)
    · rw [if_neg (show ¬ (nI n : Int32) = 1 from fun h => n1 ((nI_eq (by omega) (by omega)).mp (show nI n = nI 1 from h))), if_neg n1]
      by_cases n2 : n = 2
      · rw [if_pos (show (nI n : Int32) = 2 by rw [n2]; rfl), if_pos n2]
        exact st 1 (by omega)
      · rw [if_neg (show ¬ (nI n : Int32) = 2 from fun h => n2 ((nI_eq (by omega) (by omega)).mp (show nI n = nI 2 from h))), if_neg n2]
        exact st n hn
  · unfold b_X10_turns_2
    rw [if_pos (show (4 : Int32) ≤ nI 4 from by decide)]
theorem y_turns {T : List qv_Ent} {t q : Nat} (hq : qv_rf T t 0 = q) {M : qv_Mem} {c a : Nat} (hc : c < 19) (ha : a < 19) {A : zq_T} (hA : zS M q a A) (eA : A.2 < 1000000) : ∃ M1, f_X10_turns T t (nI a) (nI c) M = some M1 ∧ zS M1 q c (zq_ct A) ∧ zso M M1 q (fun s => s = c ∨ s = 19) := by
  have k1 := y_tlp hq M (M.2.1 q) ha (fun M1 => qv_bo (f_X10_eOf T t (nI a) M1) (fun v3 => qv_stL 340 (qv_rf T t 0) 339 v3.toInt64 M1 (fun M4 => qv_bo (f_X10_copies T t 19 (nI c) M4) (fun M5 => some M5))))
  rw [zf_self] at k1
  unfold f_X10_turns
  rw [zjn, zi_0, k1]
  have hP2 : ∀ j, (j < 323 ∨ 339 ≤ j) → y_tn (M.2.1 q) a 4 j = M.2.1 q j := fun j hj => y_tn_out hj 4 (by omega)
  have hturn : zh (fun j => y_tn (M.2.1 q) a 4 (323 + j)) (zq_ctF A.1) := by
    obtain ⟨⟨a0, a1, a2, a3⟩, ⟨a4, a5, a6, a7⟩, ⟨a8, a9, a10, a11⟩, a12, a13, a14, a15⟩ := zh_all hA.1
    have a0 : M.2.1 q (17 * a) = Int64.ofInt A.1.1.1 := a0
    apply zh_mk <;> simp [y_tn, z_tu, zq_ctF, zq_cj, Nat.add_assoc, a0, a1, a2, a3, a4, a5, a6, a7, a8, a9, a10, a11, a12, a13, a14, a15]
  generalize y_tn (M.2.1 q) a 4 = P at hP2 hturn ⊢
  have sA : zS (zf M q P) q a A := ⟨fun j hj => by show (zf M q P).2.1 q (17 * a + j) = _; rw [zf_at, hP2 _ (by omega)]; exact hA.1 j hj, by rw [zf_at, hP2 _ (by omega)]; exact hA.2⟩
  rw [y_eOf hq (by omega) sA (by omega), zbo, y_e64 _ (by omega), hq, show (339 : Int32) = nI 339 from rfl, zi_stL (by omega) (by omega), zf_up]
  have s19 : zS (zf M q (zu P 339 (Int64.ofInt (A.2 : Int)))) q 19 (zq_ct A) := by
    refine ⟨fun j hj => ?_, ?_⟩
    · show (zf M q _).2.1 q (17 * 19 + j) = _
      rw [zf_at]
      simp only [zu]
      rw [if_neg (by omega)]
      exact hturn j hj
    · rw [zf_at]
      show (if 17 * 19 + 16 = 339 then Int64.ofInt (A.2 : Int) else P (17 * 19 + 16)) = _
      rw [if_pos (by decide)]
      rfl
  obtain ⟨M2, g1, g2, g3⟩ := y_copies1 hq (zf M q (zu P 339 (Int64.ofInt (A.2 : Int)))) (a := 19) (b := c) (by omega) (by omega) s19
  rw [show (19 : Int32) = nI 19 from rfl, g1, zbo]
  refine ⟨M2, rfl, g2, zso.tr (S1 := fun s => s = 19) (S2 := fun s => s = c) (zso_zf (fun s hs j hj => ?_)) g3 (fun s h => Or.inr h) (fun s h => Or.inl h)⟩
  simp only [zu]
  rw [if_neg (by omega)]
  exact hP2 _ (by omega)
