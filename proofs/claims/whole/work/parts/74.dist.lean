/-! Cheapest words: what is to be found. -/
theorem zphp : ∀ (n : Nat) (f : Nat → Nat), (∀ i, i ≤ n → f i < n) → ∃ i j, i < j ∧ j ≤ n ∧ f i = f j
  | 0, f, h => absurd (h 0 (Nat.le_refl _)) (by omega)
  | n + 1, f, h => by
    by_cases c : ∃ i, i ≤ n ∧ f i = f (n + 1)
    · obtain ⟨i, h1, h2⟩ := c
      exact ⟨i, n + 1, by omega, Nat.le_refl _, h2⟩
    · have hv := h (n + 1) (Nat.le_refl _)
      obtain ⟨i, j, h1, h2, h3⟩ := zphp n (fun i => if f i = n then f (n + 1) else f i) (fun i hi => by
        have hi2 := h i (by omega)
        show (if f i = n then f (n + 1) else f i) < n
        by_cases e : f i = n
        · rw [if_pos e]
          by_cases e2 : f (n + 1) = n
          · exact absurd ⟨i, hi, e.trans e2.symm⟩ c
          · omega
        · rw [if_neg e]
          omega)
      refine ⟨i, j, h1, by omega, ?_⟩
      by_cases e : f i = n
      · rw [if_pos e] at h3
        by_cases e2 : f j = n
        · rw [e, e2]
        · rw [if_neg e2] at h3
          exact absurd ⟨j, h2, h3.symm⟩ c
      · rw [if_neg e] at h3
        by_cases e2 : f j = n
        · rw [if_pos e2] at h3
          exact absurd ⟨i, by omega, h3⟩ c
        · rw [if_neg e2] at h3
          exact h3
def wsum (wf : Nat → Nat) : List Nat → Nat
  | [] => 0
  | g :: w => wf g + wsum wf w
theorem wsum_app (wf : Nat → Nat) : ∀ u v, wsum wf (u ++ v) = wsum wf u + wsum wf v
  | [], v => by simp [wsum]
  | g :: u, v => by
    show wf g + wsum wf (u ++ v) = wf g + wsum wf u + wsum wf v
    rw [wsum_app wf u v, Nat.add_assoc]
def okw (w : List Nat) : Prop := ∀ g ∈ w, g ∈ pgs
theorem okw_app {u v : List Nat} (h : okw (u ++ v)) : okw u ∧ okw v := ⟨fun g hg => h g (List.mem_append_left _ hg), fun g hg => h g (List.mem_append_right _ hg)⟩
theorem okw_snoc {u : List Nat} {g : Nat} (h : okw u) (hg : g ∈ pgs) : okw (u ++ [g]) := fun x hx => (List.mem_append.mp hx).elim (h x) (fun q => by rw [List.mem_singleton.mp q]; exact hg)
def led (k : Nat) (w : List Nat) : Nat := w.foldl beh k
theorem led_app (k : Nat) (u v : List Nat) : led k (u ++ v) = led (led k u) v := List.foldl_append
theorem led_lt : ∀ (w : List Nat) (k : Nat), okw w → k < 192 → led k w < 192
  | [], k, _, h => h
  | g :: w, k, ho, h => led_lt w (beh k g) (fun x hx => ho x (List.mem_cons_of_mem _ hx)) (cl_beh h (ho g List.mem_cons_self)).2
theorem led_cl : ∀ (w : List Nat) (k : Nat), okw w → k < 192 → CL (led k w) = zq_lm (CL k) (zq_val w)
  | [], k, _, h => (zq_lm_one (cl_ok k h).ls).symm
  | g :: w, k, ho, h => by
    have hg := ho g List.mem_cons_self
    show CL (led (beh k g) w) = _
    rw [led_cl w (beh k g) (fun x hx => ho x (List.mem_cons_of_mem _ hx)) (cl_beh h hg).2, ← (cl_beh h hg).1, zq_val_cons, zq_lm_assoc]
theorem led0_cl {w : List Nat} (h : okw w) : CL (led 0 w) = zq_val w := by
  rw [led_cl w 0 h (by omega), cl_0, zq_one_lm (zq_val_ls w)]
theorem led_reach : ∀ k, k < 192 → ∃ w, okw w ∧ led 0 w = k := by
  intro k
  induction k using Nat.strongRecOn with
  | ind k ih =>
    intro hk
    by_cases h0 : k = 0
    · exact ⟨[], fun g hg => (by cases hg), h0.symm⟩
    · obtain ⟨-, h1, h2, h3⟩ := cl_w hk (by omega)
      obtain ⟨u, hu, e⟩ := ih (par k) h1 (by omega)
      exact ⟨u ++ [pgt k], okw_snoc hu h2, by rw [led_app, e]; exact h3⟩
theorem ex_min {p : Nat → Prop} (h : ∃ n, p n) : ∃ n, p n ∧ ∀ m, p m → n ≤ m := by
  obtain ⟨n, hn⟩ := h
  induction n using Nat.strongRecOn with
  | ind n ih =>
    by_cases c : ∃ m, m < n ∧ p m
    · obtain ⟨m, h1, h2⟩ := c
      exact ih m h1 h2
    · exact ⟨n, hn, fun m hm => by
        by_cases e : n ≤ m
        · exact e
        · exact absurd ⟨m, by omega, hm⟩ c⟩
def isD (wf : Nat → Nat) (k n : Nat) : Prop := (∃ w, okw w ∧ led 0 w = k ∧ wsum wf w = n) ∧ ∀ w, okw w → led 0 w = k → n ≤ wsum wf w
noncomputable def Dd (wf : Nat → Nat) (k : Nat) : Nat := @Classical.epsilon Nat ⟨0⟩ (fun n => isD wf k n)
theorem Dd_spec (wf : Nat → Nat) {k : Nat} (hk : k < 192) : isD wf k (Dd wf k) := by
  have ex : ∃ n, isD wf k n := by
    obtain ⟨w, h1, h2⟩ := led_reach k hk
    obtain ⟨n, ⟨v, v1, v2, v3⟩, hn⟩ := ex_min (p := fun n => ∃ w, okw w ∧ led 0 w = k ∧ wsum wf w = n) ⟨wsum wf w, w, h1, h2, rfl⟩
    exact ⟨n, ⟨v, v1, v2, v3⟩, fun u u1 u2 => hn _ ⟨u, u1, u2, rfl⟩⟩
  exact Classical.epsilon_spec_aux _ _ ex
theorem Dd_0 (wf : Nat → Nat) : Dd wf 0 = 0 := by
  have := (Dd_spec wf (show 0 < 192 by omega)).2 [] (fun g hg => (by cases hg)) rfl
  have e : wsum wf [] = 0 := rfl
  omega
theorem Dd_tri (wf : Nat → Nat) {k g : Nat} (hk : k < 192) (hg : g ∈ pgs) : Dd wf (beh k g) ≤ Dd wf k + wf g := by
  obtain ⟨w, h1, h2, h3⟩ := (Dd_spec wf hk).1
  have := (Dd_spec wf (cl_beh hk hg).2).2 (w ++ [g]) (okw_snoc h1 hg) (by rw [led_app, h2]; rfl)
  rw [wsum_app, h3] at this
  have e : wsum wf [g] = wf g := rfl
  omega
theorem Dd_tri2 (wf : Nat → Nat) : ∀ (w : List Nat) (k : Nat), okw w → k < 192 → Dd wf (led k w) ≤ Dd wf k + wsum wf w
  | [], k, _, h => Nat.le_refl _
  | g :: w, k, ho, h => by
    have hg := ho g List.mem_cons_self
    have h1 := Dd_tri wf h hg
    have h2 := Dd_tri2 wf w (beh k g) (fun x hx => ho x (List.mem_cons_of_mem _ hx)) (cl_beh h hg).2
    show Dd wf (led (beh k g) w) ≤ Dd wf k + (wf g + wsum wf w)
    omega
/-- a word that is one of the cheapest for where it leads -/
def optw (wf : Nat → Nat) (w : List Nat) : Prop := okw w ∧ wsum wf w = Dd wf (led 0 w)
theorem optw_app {wf : Nat → Nat} {u v : List Nat} (h : optw wf (u ++ v)) : optw wf u := by
  obtain ⟨h1, h2⟩ := h
  obtain ⟨o1, o2⟩ := okw_app h1
  have l := led_lt u 0 o1 (by omega)
  have a := Dd_tri2 wf v (led 0 u) o2 l
  have b := (Dd_spec wf l).2 u o1 rfl
  rw [wsum_app, led_app] at h2
  exact ⟨o1, by omega⟩
theorem wsum_pos {wf : Nat → Nat} (hw : ∀ g, 0 < wf g) : ∀ w, w ≠ [] → 0 < wsum wf w
  | [], h => absurd rfl h
  | g :: w, _ => by
    have := hw g
    show 0 < wf g + wsum wf w
    omega
theorem optw_len {wf : Nat → Nat} (hw : ∀ g, 0 < wf g) {w : List Nat} (h : optw wf w) : w.length ≤ 191 := by
  by_cases c : w.length ≤ 191
  · exact c
  · exfalso
    obtain ⟨i, j, h1, h2, h3⟩ := zphp 192 (fun i => led 0 (w.take i)) (fun i hi => led_lt _ 0 (fun g hg => h.1 g (List.mem_of_mem_take hg)) (by omega))
    have oi : optw wf (w.take i) := optw_app (v := w.drop i) (by rw [List.take_append_drop]; exact h)
    have oj : optw wf (w.take j) := optw_app (v := w.drop j) (by rw [List.take_append_drop]; exact h)
    have e : w.take j = w.take i ++ (w.take j).drop i := by
      have := (List.take_append_drop i (w.take j)).symm
      rw [List.take_take, show min i j = i by omega] at this
      exact this
    have q : wsum wf (w.take j) = wsum wf (w.take i) + wsum wf ((w.take j).drop i) := by
      conv => lhs; rw [e]
      exact wsum_app wf _ _
    have p := wsum_pos hw ((w.take j).drop i) (fun z => by
      have := congrArg List.length z
      rw [List.length_drop, List.length_take] at this
      have e0 : ([] : List Nat).length = 0 := rfl
      omega)
    have a1 := oi.2
    have a2 := oj.2
    rw [h3] at a1
    omega
theorem Dd_opt (wf : Nat → Nat) {k : Nat} (hk : k < 192) : ∃ w, optw wf w ∧ led 0 w = k := by
  obtain ⟨w, h1, h2, h3⟩ := (Dd_spec wf hk).1
  exact ⟨w, ⟨h1, by rw [h2]; exact h3⟩, h2⟩
/-! one after another made less -/
def rl1 (wf : Nat → Nat) (s : Bool × (Nat → Nat)) (k g : Nat) : Bool × (Nat → Nat) := if s.2 k + wf g < s.2 (beh k g) then (true, fun i => if i = beh k g then s.2 k + wf g else s.2 i) else s
def rlg (wf : Nat → Nat) (s : Bool × (Nat → Nat)) (k : Nat) : Nat → Bool × (Nat → Nat)
  | 0 => s
  | i + 1 => rl1 wf (rlg wf s k i) k (pgs.getD i 0)
def rlp (wf : Nat → Nat) (s : Bool × (Nat → Nat)) : Nat → Bool × (Nat → Nat)
  | 0 => s
  | k + 1 => rlg wf (rlp wf s k) k 5
/-- what holds on the way of one pass from r0, when (k, i) is next -/
def rlI (wf : Nat → Nat) (r0 : Nat → Nat) (s : Bool × (Nat → Nat)) (k i : Nat) : Prop := (∀ x, s.2 x ≤ r0 x) ∧ (∀ x, x < 192 → Dd wf x ≤ s.2 x) ∧ (∀ k2 j, j < 5 → (k2 < k ∨ (k2 = k ∧ j < i)) → s.2 (beh k2 (pgs.getD j 0)) ≤ r0 k2 + wf (pgs.getD j 0)) ∧ (s.1 = false → s.2 = r0)
theorem rl1_I {wf r0 : Nat → Nat} {s : Bool × (Nat → Nat)} {k i : Nat} (hk : k < 192) (hi : i < 5) (h : rlI wf r0 s k i) : rlI wf r0 (rl1 wf s k (pgs.getD i 0)) k (i + 1) := by
  obtain ⟨h1, h2, h3, h4⟩ := h
  have hg := (zpg i hi).2
  unfold rl1
  by_cases c : s.2 k + wf (pgs.getD i 0) < s.2 (beh k (pgs.getD i 0))
  · rw [if_pos c]
    refine ⟨fun x => ?_, fun x hx => ?_, fun k2 j hj hkj => ?_, fun q => (by cases q)⟩
    · show (if x = beh k (pgs.getD i 0) then s.2 k + wf (pgs.getD i 0) else s.2 x) ≤ r0 x
      split
      · rename_i e
        have := h1 (beh k (pgs.getD i 0))
        rw [e]
        omega
      · exact h1 x
    · show Dd wf x ≤ (if x = beh k (pgs.getD i 0) then s.2 k + wf (pgs.getD i 0) else s.2 x)
      split
      · rename_i e
        have a := Dd_tri wf hk hg
        have b := h2 k hk
        rw [e]
        omega
      · exact h2 x hx
    · show (if beh k2 (pgs.getD j 0) = beh k (pgs.getD i 0) then s.2 k + wf (pgs.getD i 0) else s.2 (beh k2 (pgs.getD j 0))) ≤ _
      by_cases e : k2 = k ∧ j = i
      · obtain ⟨e1, e2⟩ := e
        subst e1
        subst e2
        rw [if_pos rfl]
        have := h1 k2
        omega
      · have := h3 k2 j hj (by omega)
        split
        · rename_i q
          rw [q] at this
          omega
        · exact this
  · rw [if_neg c]
    refine ⟨h1, h2, fun k2 j hj hkj => ?_, h4⟩
    by_cases e : k2 = k ∧ j = i
    · obtain ⟨e1, e2⟩ := e
      subst e1
      subst e2
      have := h1 k2
      omega
    · exact h3 k2 j hj (by omega)
theorem rlg_I {wf r0 : Nat → Nat} {s : Bool × (Nat → Nat)} {k : Nat} (hk : k < 192) (h : rlI wf r0 s k 0) : ∀ i, i ≤ 5 → rlI wf r0 (rlg wf s k i) k i
  | 0, _ => h
  | i + 1, hi => rl1_I hk (by omega) (rlg_I hk h i (by omega))
theorem rlI_next {wf r0 : Nat → Nat} {s : Bool × (Nat → Nat)} {k : Nat} (h : rlI wf r0 s k 5) : rlI wf r0 s (k + 1) 0 := ⟨h.1, h.2.1, fun k2 j hj hkj => h.2.2.1 k2 j hj (by omega), h.2.2.2⟩
theorem rlp_I {wf r0 : Nat → Nat} (h : ∀ x, x < 192 → Dd wf x ≤ r0 x) : ∀ k, k ≤ 192 → rlI wf r0 (rlp wf (false, r0) k) k 0
  | 0, _ => ⟨fun _ => Nat.le_refl _, h, fun k2 j hj hkj => by omega, fun _ => rfl⟩
  | k + 1, hk => rlI_next (rlg_I (by omega) (rlp_I h k (by omega)) 5 (Nat.le_refl _))
/-- after p passes -/
def rlJ (wf : Nat → Nat) (p : Nat) (r : Nat → Nat) : Prop := (∀ x, x < 192 → Dd wf x ≤ r x) ∧ r 0 = 0 ∧ ∀ w, optw wf w → w.length ≤ p → r (led 0 w) = Dd wf (led 0 w)
def rlF (wf : Nat → Nat) (r : Nat → Nat) : Prop := ∀ k, k < 192 → r k = Dd wf k
theorem rlJ_aux {wf : Nat → Nat} {p : Nat} {r : Nat → Nat} {s : Bool × (Nat → Nat)} (h : rlJ wf p r) (hI : rlI wf r s 192 0) : rlJ wf (p + 1) s.2 ∧ (s.1 = false → rlF wf s.2) ∧ (∀ x, s.2 x ≤ r x) := by
  obtain ⟨h1, h2, h3⟩ := h
  obtain ⟨i1, i2, i3, i4⟩ := hI
  have s0 : s.2 0 = 0 := by
    have := i1 0
    omega
  refine ⟨⟨i2, s0, fun w hw hl => ?_⟩, fun hs k hk => ?_, i1⟩
  · rcases List.eq_nil_or_concat w with e | ⟨u, g, e⟩
    · rw [e]
      show s.2 0 = Dd wf 0
      rw [s0, Dd_0]
    · rw [List.concat_eq_append] at e
      subst e
      have ou := optw_app hw
      obtain ⟨o1, o2⟩ := okw_app hw.1
      have hg := o2 g (List.mem_singleton.mpr rfl)
      obtain ⟨j, hj, ej⟩ := zpg_mem hg
      have lu := led_lt u 0 ou.1 (by omega)
      rw [List.length_append, List.length_singleton] at hl
      have a := h3 u ou (by omega)
      have b := i3 (led 0 u) j hj (by omega)
      rw [ej, a] at b
      have e2 : led 0 (u ++ [g]) = beh (led 0 u) g := by rw [led_app]; rfl
      have c := hw.2
      rw [wsum_app, ou.2] at c
      have e3 : wsum wf [g] = wf g := rfl
      rw [e3] at c
      have d := i2 (led 0 (u ++ [g])) (led_lt _ 0 hw.1 (by omega))
      rw [← e2] at b
      omega
  · have e := i4 hs
    obtain ⟨w, hw, ew⟩ := Dd_opt wf hk
    have key : ∀ v : List Nat, okw v → s.2 (led 0 v) ≤ wsum wf v := by
      intro v
      generalize hn : v.length = n
      induction n generalizing v with
      | zero =>
        intro _
        rw [List.length_eq_zero_iff.mp hn]
        show s.2 0 ≤ 0
        omega
      | succ n ih =>
        intro hv
        rcases List.eq_nil_or_concat v with e0 | ⟨u, g, e0⟩
        · rw [e0] at hn; cases hn
        · rw [List.concat_eq_append] at e0
          subst e0
          rw [List.length_append, List.length_singleton] at hn
          obtain ⟨o1, o2⟩ := okw_app hv
          have hg := o2 g (List.mem_singleton.mpr rfl)
          obtain ⟨j, hj, ej⟩ := zpg_mem hg
          have lu := led_lt u 0 o1 (by omega)
          have a := ih u (by omega) o1
          have b := i3 (led 0 u) j hj (by omega)
          rw [ej, ← e] at b
          have e2 : led 0 (u ++ [g]) = beh (led 0 u) g := by rw [led_app]; rfl
          rw [e2, wsum_app]
          have e3 : wsum wf [g] = wf g := rfl
          omega
    have a := key w hw.1
    rw [ew, hw.2, ew] at a
    have b := i2 k hk
    omega
theorem rlJ_pass {wf : Nat → Nat} {p : Nat} {r : Nat → Nat} (h : rlJ wf p r) : rlJ wf (p + 1) (rlp wf (false, r) 192).2 ∧ ((rlp wf (false, r) 192).1 = false → rlF wf (rlp wf (false, r) 192).2) ∧ (∀ x, (rlp wf (false, r) 192).2 x ≤ r x) := rlJ_aux h (rlp_I h.1 192 (Nat.le_refl _))
theorem rlJ_0 {wf : Nat → Nat} {r : Nat → Nat} (h1 : ∀ x, x < 192 → Dd wf x ≤ r x) (h0 : r 0 = 0) : rlJ wf 0 r := ⟨h1, h0, fun w _ hl => by
  have e : w = [] := List.length_eq_zero_iff.mp (by omega)
  rw [e]
  show r 0 = Dd wf 0
  rw [h0, Dd_0]⟩
theorem rlJ_fin {wf : Nat → Nat} (hw : ∀ g, 0 < wf g) {p : Nat} {r : Nat → Nat} (h : rlJ wf p r) (hp : 191 ≤ p) : rlF wf r := by
  intro k hk
  obtain ⟨w, ho, e⟩ := Dd_opt wf hk
  have l := optw_len hw ho
  have := h.2.2 w ho (by omega)
  rw [e] at this
  exact this
/-- all found: a pass changes nothing -/
theorem rlF_pass {wf : Nat → Nat} {r : Nat → Nat} (h : rlF wf r) : rlp wf (false, r) 192 = (false, r) := by
  have g1 : ∀ k, k < 192 → ∀ i, i ≤ 5 → rlg wf (false, r) k i = (false, r) := by
    intro k hk i
    induction i with
    | zero => intro _; rfl
    | succ i ih =>
      intro hi
      show rl1 wf (rlg wf (false, r) k i) k (pgs.getD i 0) = _
      rw [ih (by omega)]
      unfold rl1
      have hg := (zpg i (by omega)).2
      have a := Dd_tri wf hk hg
      have b := h k hk
      have c := h _ (cl_beh hk hg).2
      rw [if_neg (by dsimp only; omega)]
  have g2 : ∀ k, k ≤ 192 → rlp wf (false, r) k = (false, r) := by
    intro k
    induction k with
    | zero => intro _; rfl
    | succ k ih =>
      intro hk
      show rlg wf (rlp wf (false, r) k) k 5 = _
      rw [ih (by omega)]
      exact g1 k (by omega) 5 (Nat.le_refl _)
  exact g2 192 (Nat.le_refl _)
/-! cost ahead of length -/
def wK (K : Nat) (P : Nat → Nat) : Nat → Nat := fun g => P g * K + 1
theorem wK_pos (K : Nat) (P : Nat → Nat) : ∀ g, 0 < wK K P g := fun g => by unfold wK; omega
theorem wK_sum (K : Nat) (P : Nat → Nat) : ∀ w, wsum (wK K P) w = wsum P w * K + w.length
  | [] => by simp [wsum]
  | g :: w => by
    show P g * K + 1 + wsum (wK K P) w = (P g + wsum P w) * K + (w.length + 1)
    rw [wK_sum K P w, Nat.add_mul]
    omega
theorem zlex {K c l c2 l2 : Nat} (hl2 : l2 < K) (h : c * K + l ≤ c2 * K + l2) : c ≤ c2 := by
  by_cases e : c ≤ c2
  · exact e
  · exfalso
    obtain ⟨d, rfl⟩ : ∃ d, c = c2 + 1 + d := ⟨c - c2 - 1, by omega⟩
    rw [Nat.add_mul, Nat.add_mul] at h
    omega
theorem Dd_lex {K K2 : Nat} (hK : 192 ≤ K) (hK2 : 192 ≤ K2) (P : Nat → Nat) {k : Nat} (hk : k < 192) : ∃ c l, l ≤ 191 ∧ Dd (wK K P) k = c * K + l ∧ Dd (wK K2 P) k = c * K2 + l := by
  obtain ⟨w, ho, e⟩ := Dd_opt (wK K P) hk
  obtain ⟨v, vo, ve⟩ := Dd_opt (wK K2 P) hk
  have l1 := optw_len (wK_pos K P) ho
  have l2 := optw_len (wK_pos K2 P) vo
  have a1 := ho.2
  have a2 := vo.2
  rw [e, wK_sum] at a1
  rw [ve, wK_sum] at a2
  have b1 := (Dd_spec (wK K P) hk).2 v vo.1 ve
  have b2 := (Dd_spec (wK K2 P) hk).2 w ho.1 e
  rw [wK_sum, ← a1] at b1
  rw [wK_sum, ← a2] at b2
  have c1 := zlex (by omega) b1
  have c2 := zlex (by omega) b2
  have c3 : wsum P w = wsum P v := by omega
  rw [c3] at b1 b2 a1
  refine ⟨wsum P v, w.length, l1, a1.symm, ?_⟩
  rw [← a2]
  omega
