/-! How many quarter-eighths: one of three rows taken away makes it one less. -/
def opU (V : Nat → Int × Int) : Nat → Int × Int := fun k => if k < 3 then ((V k).1 + (V (k + 3)).1, (V k).2 + (V (k + 3)).2) else if k < 6 then ((V k).1 - (V (k - 3)).1, (V k).2 - (V (k - 3)).2) else upV V k
def opT (V : Nat → Int × Int) : Nat → Int × Int := fun k => if k < 3 then ((V k).1 - (V (k + 3)).1, (V k).2 - (V (k + 3)).2) else if k < 6 then ((V k).1 + (V (k - 3)).1, (V k).2 + (V (k - 3)).2) else upV V k
def opH (V : Nat → Int × Int) : Nat → Int × Int := fun k => if k < 3 then V (k + 6) else if k < 6 then (-(V k).1, -(V k).2) else V (k - 6)
def opS (V : Nat → Int × Int) : Nat → Int × Int := fun k => if k < 3 then V (k + 3) else if k < 6 then (-(V (k - 3)).1, -(V (k - 3)).2) else V k
theorem opU_cg {V W : Nat → Int × Int} (h : e9 V W) : e9 (opU V) (opU W) := fun k hk => by
  unfold opU
  by_cases c : k < 3
  · rw [if_pos c, if_pos c, h k hk, h (k + 3) (by omega)]
  · rw [if_neg c, if_neg c]
    by_cases d : k < 6
    · rw [if_pos d, if_pos d, h k hk, h (k - 3) (by omega)]
    · rw [if_neg d, if_neg d]
      exact h.up k hk
theorem opT_cg {V W : Nat → Int × Int} (h : e9 V W) : e9 (opT V) (opT W) := fun k hk => by
  unfold opT
  by_cases c : k < 3
  · rw [if_pos c, if_pos c, h k hk, h (k + 3) (by omega)]
  · rw [if_neg c, if_neg c]
    by_cases d : k < 6
    · rw [if_pos d, if_pos d, h k hk, h (k - 3) (by omega)]
    · rw [if_neg d, if_neg d]
      exact h.up k hk
theorem opH_cg {V W : Nat → Int × Int} (h : e9 V W) : e9 (opH V) (opH W) := fun k hk => by
  unfold opH
  by_cases c : k < 3
  · rw [if_pos c, if_pos c, h (k + 6) (by omega)]
  · rw [if_neg c, if_neg c]
    by_cases d : k < 6
    · rw [if_pos d, if_pos d, h k hk]
    · rw [if_neg d, if_neg d, h (k - 6) (by omega)]
theorem opS_cg {V W : Nat → Int × Int} (h : e9 V W) : e9 (opS V) (opS W) := fun k hk => by
  unfold opS
  by_cases c : k < 3
  · rw [if_pos c, if_pos c, h (k + 3) (by omega)]
  · rw [if_neg c, if_neg c]
    by_cases d : k < 6
    · rw [if_pos d, if_pos d, h (k - 3) (by omega)]
    · rw [if_neg d, if_neg d, h k hk]
theorem opU_up (V : Nat → Int × Int) : opU (upV V) = upV (opU V) := by
  funext k
  unfold opU upV
  dsimp only
  by_cases c : k < 3
  · rw [if_pos c, if_pos c]
    refine Prod.ext ?_ rfl
    dsimp only
    omega
  · rw [if_neg c, if_neg c]
    by_cases d : k < 6
    · rw [if_pos d, if_pos d]
      refine Prod.ext ?_ rfl
      dsimp only
      omega
    · rw [if_neg d, if_neg d]
theorem opT_up (V : Nat → Int × Int) : opT (upV V) = upV (opT V) := by
  funext k
  unfold opT upV
  dsimp only
  by_cases c : k < 3
  · rw [if_pos c, if_pos c]
    refine Prod.ext ?_ rfl
    dsimp only
    omega
  · rw [if_neg c, if_neg c]
    by_cases d : k < 6
    · rw [if_pos d, if_pos d]
      refine Prod.ext ?_ rfl
      dsimp only
      omega
    · rw [if_neg d, if_neg d]
theorem opH_up (V : Nat → Int × Int) : opH (upV V) = upV (opH V) := by
  funext k
  unfold opH upV
  dsimp only
  by_cases c : k < 3
  · rw [if_pos c, if_pos c]
  · rw [if_neg c, if_neg c]
    by_cases d : k < 6
    · rw [if_pos d, if_pos d]
      refine Prod.ext ?_ rfl
      dsimp only
      omega
    · rw [if_neg d, if_neg d]
theorem opS_up (V : Nat → Int × Int) : opS (upV V) = upV (opS V) := by
  funext k
  unfold opS upV
  dsimp only
  by_cases c : k < 3
  · rw [if_pos c, if_pos c]
  · rw [if_neg c, if_neg c]
    by_cases d : k < 6
    · rw [if_pos d, if_pos d]
      refine Prod.ext ?_ rfl
      dsimp only
      omega
    · rw [if_neg d, if_neg d]
theorem op_upn {op : (Nat → Int × Int) → Nat → Int × Int} (h : ∀ V, op (upV V) = upV (op V)) (V : Nat → Int × Int) : ∀ n, op (upn n V) = upn n (op V)
  | 0 => rfl
  | n + 1 => by
    show op (upV (upn n V)) = upV (upn n (op V))
    rw [h, op_upn h V n]
theorem chN_G {A : zq_F} (G : zq_F) (k : Nat) : chV (zq_pmF G A) k = cN (zq_pmF G (zq_pmF (chS A (k % 3)) (zq_ctF G))) (k / 3) := by
  rw [chV_cN, chS_G]
theorem act_U {A : zq_T} (h : zq_ok A) : e9 (upV (chV (zq_pmF (zq_gt 6).1 A.1))) (opU (chV A.1)) := by
  intro k hk
  have q := (act_all (chS_h A.1 (k % 3)) (chS_t h (k % 3))).1
  unfold upV opU
  rw [chN_G]
  have c : k / 3 = 0 ∨ k / 3 = 1 ∨ k / 3 = 2 := by omega
  rcases c with c | c | c
  · rw [if_pos (by omega), chV_cN, chV_cN, c, show (k + 3) % 3 = k % 3 by omega, show (k + 3) / 3 = 1 by omega]
    exact Prod.ext q.1 q.2.1
  · rw [if_neg (by omega), if_pos (by omega), chV_cN, chV_cN, c, show (k - 3) % 3 = k % 3 by omega, show (k - 3) / 3 = 0 by omega]
    exact Prod.ext q.2.2.1 q.2.2.2.1
  · rw [if_neg (by omega), if_neg (by omega), c, q.2.2.2.2]
    unfold upV
    rw [chV_cN, c]
theorem act_T {A : zq_T} (h : zq_ok A) : e9 (upV (chV (zq_pmF (zq_gt 1).1 A.1))) (opT (chV A.1)) := by
  intro k hk
  have q := (act_all (chS_h A.1 (k % 3)) (chS_t h (k % 3))).2.1
  unfold upV opT
  rw [chN_G]
  have c : k / 3 = 0 ∨ k / 3 = 1 ∨ k / 3 = 2 := by omega
  rcases c with c | c | c
  · rw [if_pos (by omega), chV_cN, chV_cN, c, show (k + 3) % 3 = k % 3 by omega, show (k + 3) / 3 = 1 by omega]
    exact Prod.ext q.1 q.2.1
  · rw [if_neg (by omega), if_pos (by omega), chV_cN, chV_cN, c, show (k - 3) % 3 = k % 3 by omega, show (k - 3) / 3 = 0 by omega]
    exact Prod.ext q.2.2.1 q.2.2.2.1
  · rw [if_neg (by omega), if_neg (by omega), c, q.2.2.2.2]
    unfold upV
    rw [chV_cN, c]
theorem act_H {A : zq_T} (h : zq_ok A) : e9 (chV (zq_pmF (zq_gt 0).1 A.1)) (upV (upV (opH (chV A.1)))) := by
  intro k hk
  have q := (act_all (chS_h A.1 (k % 3)) (chS_t h (k % 3))).2.2.1
  unfold upV opH
  rw [chN_G]
  have c : k / 3 = 0 ∨ k / 3 = 1 ∨ k / 3 = 2 := by omega
  rcases c with c | c | c
  · rw [if_pos (by omega), chV_cN, c, show (k + 6) % 3 = k % 3 by omega, show (k + 6) / 3 = 2 by omega]
    exact q.1
  · rw [if_neg (by omega), if_pos (by omega), chV_cN, c]
    exact q.2.1
  · rw [if_neg (by omega), if_neg (by omega), chV_cN, c, show (k - 6) % 3 = k % 3 by omega, show (k - 6) / 3 = 0 by omega]
    exact q.2.2
theorem act_S {A : zq_T} (h : zq_ok A) : e9 (chV (zq_pmF (zq_ct (zq_gt 2)).1 A.1)) (opS (chV A.1)) := by
  intro k hk
  have q := (act_all (chS_h A.1 (k % 3)) (chS_t h (k % 3))).2.2.2
  unfold opS
  rw [chN_G]
  have c : k / 3 = 0 ∨ k / 3 = 1 ∨ k / 3 = 2 := by omega
  rcases c with c | c | c
  · rw [if_pos (by omega), chV_cN, c, show (k + 3) % 3 = k % 3 by omega, show (k + 3) / 3 = 1 by omega]
    exact q.1
  · rw [if_neg (by omega), if_pos (by omega), chV_cN, c, show (k - 3) % 3 = k % 3 by omega, show (k - 3) / 3 = 0 by omega]
    exact q.2.1
  · rw [if_neg (by omega), if_neg (by omega), chV_cN, c]
    exact q.2.2
theorem chA_lm (G A : zq_T) : chA (zq_lm G A) = chl (2 * (G.2 + A.2) + 2) (chV (zq_pmF G.1 A.1)) := chA_low (zq_pm G A)
theorem f_U {A : zq_T} (h : zq_ok A) : (chA (zq_lm (zq_gt 6) A)).2 = (chl ((chA A).2 + 1) (opU (chA A).1)).2 := by
  obtain ⟨n, h1, h2⟩ := chl_un (2 * A.2 + 2) (chV A.1)
  have g : (zq_gt 6).2 = 0 := rfl
  have e1 : e9 (opU (chV A.1)) (upn n (opU (chA A).1)) := (opU_cg h1).tr (by rw [op_upn opU_up]; exact fun _ _ => rfl)
  rw [chA_lm, g, ← chl_up1]
  have a := (chl_cg (2 * (0 + A.2) + 2 + 1) ((act_U h).tr e1)).1
  rw [a, show 2 * (0 + A.2) + 2 + 1 = (chA A).2 + 1 + n by unfold chA; omega, chl_upn]
theorem f_T {A : zq_T} (h : zq_ok A) : (chA (zq_lm (zq_gt 1) A)).2 ≤ (chA A).2 + 1 := by
  obtain ⟨n, h1, h2⟩ := chl_un (2 * A.2 + 2) (chV A.1)
  have g : (zq_gt 1).2 = 0 := rfl
  have e1 : e9 (opT (chV A.1)) (upn n (opT (chA A).1)) := (opT_cg h1).tr (by rw [op_upn opT_up]; exact fun _ _ => rfl)
  rw [chA_lm, g, ← chl_up1]
  have a := (chl_cg (2 * (0 + A.2) + 2 + 1) ((act_T h).tr e1)).1
  rw [a, show 2 * (0 + A.2) + 2 + 1 = (chA A).2 + 1 + n by unfold chA; omega, chl_upn]
  exact chl_f _ _
theorem che_opH {V : Nat → Int × Int} (h : che V 9 = false) : che (opH V) 9 = false := by
  by_cases c : che (opH V) 9 = true
  · exfalso
    have ev := (che_iff (opH V) 9).mp c
    have : che V 9 = true := (che_iff V 9).mpr (fun k hk => by
      by_cases c1 : k < 3
      · have := ev (k + 6) (by omega)
        unfold opH at this
        rw [if_neg (by omega), if_neg (by omega), show k + 6 - 6 = k by omega] at this
        exact this
      · by_cases c2 : k < 6
        · have := ev k hk
          unfold opH at this
          rw [if_neg c1, if_pos c2] at this
          dsimp only at this
          omega
        · have := ev (k - 6) (by omega)
          unfold opH at this
          rw [if_pos (by omega), show k - 6 + 6 = k by omega] at this
          exact this)
    rw [h] at this
    cases this
  · rwa [Bool.not_eq_true] at c
theorem che_opS {V : Nat → Int × Int} (h : che V 9 = false) : che (opS V) 9 = false := by
  by_cases c : che (opS V) 9 = true
  · exfalso
    have ev := (che_iff (opS V) 9).mp c
    have : che V 9 = true := (che_iff V 9).mpr (fun k hk => by
      by_cases c1 : k < 3
      · have := ev (k + 3) (by omega)
        unfold opS at this
        rw [if_neg (by omega), if_pos (by omega), show k + 3 - 3 = k by omega] at this
        dsimp only at this
        omega
      · by_cases c2 : k < 6
        · have := ev (k - 3) (by omega)
          unfold opS at this
          rw [if_pos (by omega), show k - 3 + 3 = k by omega] at this
          exact this
        · have := ev k hk
          unfold opS at this
          rw [if_neg c1, if_neg c2] at this
          exact this)
    rw [h] at this
    cases this
  · rwa [Bool.not_eq_true] at c
theorem f_H {A : zq_T} (h : zq_ok A) : (chA (zq_lm (zq_gt 0) A)).2 = (chA A).2 ∧ e9 (chA (zq_lm (zq_gt 0) A)).1 (opH (chA A).1) := by
  obtain ⟨n, h1, h2⟩ := chl_un (2 * A.2 + 2) (chV A.1)
  have g : (zq_gt 0).2 = 1 := rfl
  have e1 : e9 (opH (chV A.1)) (upn n (opH (chA A).1)) := (opH_cg h1).tr (by rw [op_upn opH_up]; exact fun _ _ => rfl)
  rw [chA_lm, g]
  have e2 : e9 (chV (zq_pmF (zq_gt 0).1 A.1)) (upn (n + 2) (opH (chA A).1)) := (act_H h).tr e1.up.up
  refine chl_uni e2 (by unfold chA; omega) ?_
  rcases chl_low (2 * A.2 + 2) (chV A.1) with q | q
  · exact Or.inl q
  · exact Or.inr (che_opH q)
theorem f_S {A : zq_T} (h : zq_ok A) : (chA (zq_lm (zq_ct (zq_gt 2)) A)).2 = (chA A).2 ∧ e9 (chA (zq_lm (zq_ct (zq_gt 2)) A)).1 (opS (chA A).1) := by
  obtain ⟨n, h1, h2⟩ := chl_un (2 * A.2 + 2) (chV A.1)
  have g : (zq_ct (zq_gt 2)).2 = 0 := rfl
  have e1 : e9 (opS (chV A.1)) (upn n (opS (chA A).1)) := (opS_cg h1).tr (by rw [op_upn opS_up]; exact fun _ _ => rfl)
  rw [chA_lm, g]
  refine chl_uni ((act_S h).tr e1) (by unfold chA; omega) ?_
  rcases chl_low (2 * A.2 + 2) (chV A.1) with q | q
  · exact Or.inl q
  · exact Or.inr (che_opS q)
/-- the last row even, the others alike: T goes -/
theorem f_less {A : zq_T} (h : zq_ok A) (hf : 0 < (chA A).2) (h2 : ev2 (chA A).1 2) (h01 : cg2 (chA A).1 0 1) : (chA (zq_lm (zq_gt 6) A)).2 + 1 = (chA A).2 := by
  have up : (chA A).2 ≤ (chA (zq_lm (zq_gt 6) A)).2 + 1 := by
    have o := (zq_ok.gt1 (show 6 < 7 by omega)).mul h
    have a := f_T o
    rw [← zq_lm_assoc] at a
    have e : zq_lm (zq_gt 1) (zq_gt 6) = zq_one := zq_dec (by decide +kernel)
    rw [e, zq_one_lm h.ls] at a
    exact a
  have dn : (chA (zq_lm (zq_gt 6) A)).2 ≤ (chA A).2 - 1 := by
    rw [f_U h]
    generalize (chA A).1 = V at h2 h01
    obtain ⟨g, hg⟩ : ∃ g, (chA A).2 = g + 1 := ⟨(chA A).2 - 1, by omega⟩
    rw [hg]
    have c1 : che (opU V) 9 = true := (che_iff _ 9).mpr (fun k hk => by
      unfold opU
      by_cases c : k < 3
      · have := (h01 k c).1
        rw [show 3 * 0 + k = k by omega, show 3 * 1 + k = k + 3 by omega] at this
        rw [if_pos c]
        exact this
      · rw [if_neg c]
        by_cases d : k < 6
        · have := (h01 (k - 3) (by omega)).1
          rw [show 3 * 0 + (k - 3) = k - 3 by omega, show 3 * 1 + (k - 3) = k by omega] at this
          rw [if_pos d]
          dsimp only
          omega
        · rw [if_neg d]
          show (2 * (V k).2) % 2 = 0
          omega)
    have c2 : che (chd (opU V)) 9 = true := (che_iff _ 9).mpr (fun k hk => by
      show (opU V k).2 % 2 = 0
      unfold opU
      by_cases c : k < 3
      · have := (h01 k c).2
        rw [show 3 * 0 + k = k by omega, show 3 * 1 + k = k + 3 by omega] at this
        rw [if_pos c]
        exact this
      · rw [if_neg c]
        by_cases d : k < 6
        · have := (h01 (k - 3) (by omega)).2
          rw [show 3 * 0 + (k - 3) = k - 3 by omega, show 3 * 1 + (k - 3) = k by omega] at this
          rw [if_pos d]
          dsimp only
          omega
        · have := h2 (k - 6) (by omega)
          rw [show 3 * 2 + (k - 6) = k by omega] at this
          rw [if_neg d]
          exact this)
    show (if che (opU V) 9 = true then chl (g + 1) (chd (opU V)) else _).2 ≤ _
    rw [if_pos c1]
    show (if che (chd (opU V)) 9 = true then chl g (chd (chd (opU V))) else _).2 ≤ _
    rw [if_pos c2]
    exact chl_f g _
  omega
def rem (i : Nat) (A : zq_T) : zq_T := if i = 0 then zq_lm (zq_gt 6) A else if i = 1 then zq_lm (zq_gt 6) (zq_lm (zq_gt 0) A) else zq_lm (zq_gt 6) (zq_lm (zq_gt 0) (zq_lm (zq_ct (zq_gt 2)) A))
theorem ev2_cg {V W : Nat → Int × Int} (h : e9 V W) {r : Nat} (hr : r < 3) (q : ev2 W r) : ev2 V r := fun j hj => by rw [h _ (by omega)]; exact q j hj
theorem cg2_cg {V W : Nat → Int × Int} (h : e9 V W) {p r : Nat} (hp : p < 3) (hr : r < 3) (q : cg2 W p r) : cg2 V p r := fun j hj => by rw [h _ (by omega), h _ (by omega)]; exact q j hj
theorem f_less1 {A : zq_T} (h : zq_ok A) (hf : 0 < (chA A).2) (h0 : ev2 (chA A).1 0) (h12 : cg2 (chA A).1 1 2) : (chA (zq_lm (zq_gt 6) (zq_lm (zq_gt 0) A))).2 + 1 = (chA A).2 := by
  obtain ⟨a, b⟩ := f_H h
  have o := (zq_ok.gt1 (show 0 < 7 by omega)).mul h
  have q2 : ev2 (opH (chA A).1) 2 := fun j hj => by
    unfold opH
    rw [if_neg (by omega), if_neg (by omega), show 3 * 2 + j - 6 = 3 * 0 + j by omega]
    exact h0 j hj
  have q01 : cg2 (opH (chA A).1) 0 1 := fun j hj => by
    unfold opH
    have := h12 j hj
    rw [if_pos (by omega), if_neg (by omega), if_pos (by omega), show 3 * 0 + j + 6 = 3 * 2 + j by omega]
    dsimp only
    omega
  have r := f_less o (by omega) (ev2_cg b (by omega) q2) (cg2_cg b (by omega) (by omega) q01)
  omega
theorem f_rem {A : zq_T} (h : zq_ok A) (hf : 0 < (chA A).2) : (chA (rem 0 A)).2 + 1 = (chA A).2 ∨ (chA (rem 1 A)).2 + 1 = (chA A).2 ∨ (chA (rem 2 A)).2 + 1 = (chA A).2 := by
  obtain ⟨o1, o2⟩ := or_A h
  have he : che (chA A).1 9 = false := by
    rcases chl_low (2 * A.2 + 2) (chV A.1) with q | q
    · have : (chA A).2 = 0 := q
      omega
    · exact q
  rcases ch_par hf o1 o2 he with ⟨a, b⟩ | ⟨a, b⟩ | ⟨a, b⟩
  · exact Or.inl (f_less h hf a b)
  · exact Or.inr (Or.inl (f_less1 h hf a b))
  · refine Or.inr (Or.inr ?_)
    obtain ⟨c, d⟩ := f_S h
    have o := (zq_ok.gt1 (show 2 < 7 by omega)).ct.mul h
    have q0 : ev2 (opS (chA A).1) 0 := fun j hj => by
      unfold opS
      rw [if_pos (by omega), show 3 * 0 + j + 3 = 3 * 1 + j by omega]
      exact a j hj
    have q12 : cg2 (opS (chA A).1) 1 2 := fun j hj => by
      unfold opS
      have := b j hj
      rw [if_neg (by omega), if_pos (by omega), if_neg (by omega), if_neg (by omega), show 3 * 1 + j - 3 = 3 * 0 + j by omega]
      dsimp only
      omega
    have r := f_less1 o (by omega) (ev2_cg d (by omega) q0) (cg2_cg d (by omega) (by omega) q12)
    show (chA (zq_lm (zq_gt 6) (zq_lm (zq_gt 0) (zq_lm (zq_ct (zq_gt 2)) A)))).2 + 1 = _
    omega
