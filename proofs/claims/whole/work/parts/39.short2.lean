/-! Shortening to the end. -/
def s_fd (l : List Nat) : Nat → Nat → Option (List Nat)
  | 0, _ => none
  | n + 1, i => match s_at l i with
    | some l' => some l'
    | none => s_fd l n (i + 1)
def s_once (l : List Nat) : Option (List Nat) := s_fd l l.length 0
def s_run : Nat → List Nat → List Nat
  | 0, l => l
  | n + 1, l => match s_once l with
    | none => l
    | some l' => s_run n l'
theorem s_fd_n {l : List Nat} {n i : Nat} (h : s_at l i = none) : s_fd l (n + 1) i = s_fd l n (i + 1) := by
  show (match s_at l i with | some l' => some l' | none => s_fd l n (i + 1)) = _
  rw [h]
theorem s_fd_s {l l' : List Nat} {n i : Nat} (h : s_at l i = some l') : s_fd l (n + 1) i = some l' := by
  show (match s_at l i with | some l' => some l' | none => s_fd l n (i + 1)) = _
  rw [h]
theorem s_run_n {l : List Nat} (n : Nat) (h : s_once l = none) : s_run n l = l := by
  cases n with
  | zero => rfl
  | succ n =>
    show (match s_once l with | none => l | some l' => s_run n l') = _
    rw [h]
theorem s_run_s {l l' : List Nat} (n : Nat) (h : s_once l = some l') : s_run (n + 1) l = s_run n l' := by
  show (match s_once l with | none => l | some l' => s_run n l') = _
  rw [h]
theorem s_fd_ex {l l' : List Nat} : ∀ n i, s_fd l n i = some l' → ∃ j, i ≤ j ∧ j < i + n ∧ s_at l j = some l'
  | 0, i, h => by cases h
  | n + 1, i, h => by
    cases e : s_at l i with
    | none =>
      rw [s_fd_n e] at h
      obtain ⟨j, a, b, c⟩ := s_fd_ex n (i + 1) h
      exact ⟨j, by omega, by omega, c⟩
    | some m =>
      rw [s_fd_s e] at h
      exact ⟨i, Nat.le_refl _, by omega, by rw [e, h]⟩
theorem s_fd_all {l : List Nat} : ∀ n i, (∀ j, i ≤ j → j < i + n → s_at l j = none) → s_fd l n i = none
  | 0, i, _ => rfl
  | n + 1, i, h => by
    rw [s_fd_n (h i (Nat.le_refl _) (by omega))]
    exact s_fd_all n (i + 1) (fun j a b => h j (by omega) (by omega))
theorem s_fd_first {l l' : List Nat} : ∀ n i k, (∀ j, i ≤ j → j < k → s_at l j = none) → i ≤ k → k < i + n → s_at l k = some l' → s_fd l n i = some l'
  | 0, i, k, _, a, b, _ => by omega
  | n + 1, i, k, h, a, b, hk => by
    by_cases e : i = k
    · rw [e]
      exact s_fd_s hk
    · rw [s_fd_n (h i (Nat.le_refl _) (by omega))]
      exact s_fd_first n (i + 1) k (fun j a b => h j (by omega) b) (by omega) (by omega) hk
theorem s_mem_cut {l : List Nat} {a b : Nat} (h : ∀ g ∈ l, g < 7) : ∀ g ∈ l.take a ++ l.drop b, g < 7 := by
  intro g hg
  rcases List.mem_append.mp hg with q | q
  · exact h g (List.mem_of_mem_take q)
  · exact h g (List.mem_of_mem_drop q)
theorem s_mem_set {l : List Nat} {i g : Nat} (h : ∀ g ∈ l, g < 7) (hg : g < 7) : ∀ x ∈ l.set i g, x < 7 := by
  intro x hx
  rcases List.mem_or_eq_of_mem_set hx with q | q
  · exact h x q
  · omega
theorem s_at_lt {l l' : List Nat} {i : Nat} (hg : ∀ g ∈ l, g < 7) (h : s_at l i = some l') : ∀ g ∈ l', g < 7 := by
  unfold s_at at h
  split at h
  · cases h; exact s_mem_cut hg
  · split at h
    · cases h; exact s_mem_cut hg
    · split at h
      · cases h; exact s_mem_set (s_mem_set hg (by omega)) (by omega)
      · split at h
        · rename_i h4
          cases h; exact s_mem_cut (s_mem_set hg h4)
        · cases h
theorem s_once_lt {l l' : List Nat} (hg : ∀ g ∈ l, g < 7) (h : s_once l = some l') : ∀ g ∈ l', g < 7 := by
  obtain ⟨j, -, -, e⟩ := s_fd_ex _ _ h
  exact s_at_lt hg e
theorem s_run_lt : ∀ (n : Nat) (l : List Nat), (∀ g ∈ l, g < 7) → ∀ g ∈ s_run n l, g < 7
  | 0, l, hg => hg
  | n + 1, l, hg => by
    cases e : s_once l with
    | none => rw [s_run_n _ e]; exact hg
    | some l' => rw [s_run_s _ e]; exact s_run_lt n l' (s_once_lt hg e)
theorem w_once_lp {T : List qv_Ent} {t p : Nat} (hp : qv_rf T t 0 = p) {M : qv_Mem} {l : List Nat} (h : zR M t p l) (hg : ∀ g ∈ l, g < 7) : ∀ (n i f : Nat), i + n = l.length → n < f → (s_fd l n i = none → qv_lp2 (b_X6_shortenOnce_2 t T (fun M1 => some (0, M1))) f (nI i) M = some (0, M)) ∧ (∀ l', s_fd l n i = some l' → ∃ M1, qv_lp2 (b_X6_shortenOnce_2 t T (fun M1 => some (0, M1))) f (nI i) M = some (1, M1) ∧ zR M1 t p l' ∧ zow M M1 t p) := by
  have h60 := h.2.1
  intro n
  induction n with
  | zero =>
    intro i f hi hf
    obtain ⟨f, rfl⟩ : ∃ g, f = g + 1 := ⟨f - 1, by omega⟩
    rw [zN2]
    unfold b_X6_shortenOnce_2
    rw [zgS, h.1, if_pos (nI_le (by omega) (by omega))]
    exact ⟨fun _ => rfl, fun l' q => by cases q⟩
  | succ n ih =>
    intro i f hi hf
    obtain ⟨f, rfl⟩ : ∃ g, f = g + 1 := ⟨f - 1, by omega⟩
    rw [zN2]
    have ih1 := ih (i + 1) f (by omega) (by omega)
    generalize qv_lp2 (b_X6_shortenOnce_2 t T (fun M1 => some (0, M1))) f = rr at ih1 ⊢
    unfold b_X6_shortenOnce_2
    obtain ⟨s1, s2⟩ := w_shortenAt hp h hg (show i < l.length by omega)
    rw [zgS, h.1, if_neg (nI_ge (show i < l.length by omega) (by omega))]
    cases e : s_at l i with
    | none =>
      rw [s1 e, zbp, if_pos rfl, nI_1, s_fd_n e]
      exact ih1
    | some m =>
      obtain ⟨M1, e1, h1, k1⟩ := s2 m e
      rw [e1, zbp, if_neg zl1n0, s_fd_s e]
      refine ⟨fun q => (by cases q), fun l' q => ?_⟩
      cases q
      exact ⟨M1, rfl, h1, k1⟩
theorem w_shortenOnce {T : List qv_Ent} {t p : Nat} (hp : qv_rf T t 0 = p) {M : qv_Mem} {l : List Nat} (h : zR M t p l) (hg : ∀ g ∈ l, g < 7) : (s_once l = none → f_X6_shortenOnce T t M = some (0, M)) ∧ (∀ l', s_once l = some l' → ∃ M1, f_X6_shortenOnce T t M = some (1, M1) ∧ zR M1 t p l' ∧ zow M M1 t p) := by
  have h60 := h.2.1
  unfold f_X6_shortenOnce
  rw [zjn, zi_0]
  exact w_once_lp hp h hg l.length 0 qv_N (by omega) (qv_N_gt _ (by omega))
theorem zN3 {A1 A2 A3 α : Type} (b : (A1 → A2 → A3 → Option α) → A1 → A2 → A3 → Option α) (n : Nat) (a1 : A1) (a2 : A2) (a3 : A3) : qv_lp3 b (n + 1) a1 a2 a3 = b (qv_lp3 b n) a1 a2 a3 := id rfl
theorem zl120 : (120 : Int32) = nI 120 := id rfl
theorem w_sh0 {T : List qv_Ent} {t : Nat} (M : qv_Mem) (j f : Nat) (hj : j ≤ 120) : qv_lp3 (b_X6_shorten_4 t T (fun M1 => some M1)) (f + 1) 0 (nI j) M = some M := by
  rw [zN3]
  unfold b_X6_shorten_4
  rw [zl120]
  by_cases e : j = 120
  · rw [if_pos (nI_le (by omega) (by omega))]
  · rw [if_neg (zi_nle (a := 120) (b := j) (by omega) (by omega)), if_pos rfl]
theorem w_sh_lp {T : List qv_Ent} {t p : Nat} (hp : qv_rf T t 0 = p) : ∀ (n j f : Nat) (M : qv_Mem) (l : List Nat), zR M t p l → (∀ g ∈ l, g < 7) → j + n = 120 → n + 1 < f → ∃ M1, qv_lp3 (b_X6_shorten_4 t T (fun M1 => some M1)) f 1 (nI j) M = some M1 ∧ zR M1 t p (s_run n l) ∧ zow M M1 t p := by
  intro n
  induction n with
  | zero =>
    intro j f M l h hg hj hf
    obtain ⟨f, rfl⟩ : ∃ g, f = g + 1 := ⟨f - 1, by omega⟩
    rw [zN3]
    unfold b_X6_shorten_4
    rw [zl120, if_pos (nI_le (by omega) (by omega))]
    exact ⟨M, rfl, h, zow.rf _ _ _⟩
  | succ n ih =>
    intro j f M l h hg hj hf
    obtain ⟨f, rfl⟩ : ∃ g, f = g + 2 := ⟨f - 2, by omega⟩
    rw [zN3]
    have z0 := w_sh0 (T := T) (t := t) M (j + 1) f (by omega)
    have ih1 := ih (j + 1) (f + 1)
    generalize qv_lp3 (b_X6_shorten_4 t T (fun M1 => some M1)) (f + 1) = rr at ih1 z0 ⊢
    unfold b_X6_shorten_4
    obtain ⟨s1, s2⟩ := w_shortenOnce hp h hg
    rw [zl120, if_neg (zi_nle (a := 120) (b := j) (by omega) (by omega)), if_neg zl1n0]
    cases e : s_once l with
    | none =>
      rw [s1 e, zbp, nI_1, z0, s_run_n _ e]
      exact ⟨M, rfl, h, zow.rf _ _ _⟩
    | some m =>
      obtain ⟨M1, e1, h1, k1⟩ := s2 m e
      rw [e1, zbp, nI_1, s_run_s _ e]
      obtain ⟨M2, e2, h2, k2⟩ := ih1 M1 m h1 (s_once_lt hg e) (by omega) (by omega)
      exact ⟨M2, e2, h2, k1.tr k2⟩
theorem w_shorten {T : List qv_Ent} {t p : Nat} (hp : qv_rf T t 0 = p) {M : qv_Mem} {l : List Nat} (h : zR M t p l) (hg : ∀ g ∈ l, g < 7) : ∃ M1, f_X6_shorten T t M = some M1 ∧ zR M1 t p (s_run 120 l) ∧ zow M M1 t p := by
  unfold f_X6_shorten
  rw [zjn, zi_0]
  exact w_sh_lp hp 120 0 qv_N M l h hg rfl (qv_N_gt _ (by omega))
/-- each step has less -/
def s_mu (l : List Nat) : Nat := 2 * l.length + l.count 6
theorem s_mu_cut {l : List Nat} {i m : Nat} (hm : 1 ≤ m) (h : i + m ≤ l.length) : s_mu (l.take i ++ l.drop (i + m)) + 2 ≤ s_mu l := by
  unfold s_mu
  have e : l.count 6 = (l.take i).count 6 + (l.drop i).count 6 := by rw [← List.count_append, List.take_append_drop]
  have e2 : (l.drop (i + m)).count 6 ≤ (l.drop i).count 6 := by
    have : l.drop (i + m) = (l.drop i).drop m := by rw [List.drop_drop]
    rw [this]
    exact (List.drop_sublist m (l.drop i)).count_le 6
  rw [List.length_append, List.length_take, List.length_drop, List.count_append]
  omega
