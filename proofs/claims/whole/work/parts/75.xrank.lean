/-! Cheapest words: the class's ranks. -/
theorem Dd_cg {wf wf2 : Nat → Nat} (h : ∀ g ∈ pgs, wf g = wf2 g) (k : Nat) : Dd wf k = Dd wf2 k := by
  have ws : ∀ w, okw w → wsum wf w = wsum wf2 w := by
    intro w
    induction w with
    | nil => intro _; rfl
    | cons g w ih =>
      intro ho
      show wf g + wsum wf w = wf2 g + wsum wf2 w
      rw [h g (ho g List.mem_cons_self), ih (fun x hx => ho x (List.mem_cons_of_mem _ hx))]
  have e : (fun n => isD wf k n) = (fun n => isD wf2 k n) := by
    funext n
    apply propext
    unfold isD
    constructor
    · rintro ⟨⟨w, h1, h2, h3⟩, h4⟩
      exact ⟨⟨w, h1, h2, by rw [← ws w h1]; exact h3⟩, fun v v1 v2 => by rw [← ws v v1]; exact h4 v v1 v2⟩
    · rintro ⟨⟨w, h1, h2, h3⟩, h4⟩
      exact ⟨⟨w, h1, h2, by rw [ws w h1]; exact h3⟩, fun v v1 v2 => by rw [ws v v1]; exact h4 v v1 v2⟩
  unfold Dd
  rw [e]
noncomputable def Dr (P : Nat → Nat) (k : Nat) : Nat := Dd (wK 1024 P) k
theorem Dr_cg {P Q : Nat → Nat} (h : ∀ g ∈ pgs, P g = Q g) (k : Nat) : Dr P k = Dr Q k := Dd_cg (fun g hg => by unfold wK; rw [h g hg]) k
theorem wK_le {P : Nat → Nat} (hP : zPk P) {g : Nat} (hg : g < 7) : wK 1024 P g ≤ 9217 := by
  have := hP g hg
  unfold wK
  omega
theorem wsum_le {P : Nat → Nat} (hP : zPk P) : ∀ w, okw w → wsum (wK 1024 P) w ≤ 9217 * w.length
  | [], _ => Nat.le_refl _
  | g :: w, h => by
    have a := wK_le hP (pgs_lt (h g List.mem_cons_self))
    have b := wsum_le hP w (fun x hx => h x (List.mem_cons_of_mem _ hx))
    show wK 1024 P g + wsum (wK 1024 P) w ≤ 9217 * (w.length + 1)
    omega
theorem Dr_lt {P : Nat → Nat} (hP : zPk P) {k : Nat} (hk : k < 192) : Dr P k < 2000000 := by
  obtain ⟨w, h1, h2⟩ := Dd_opt (wK 1024 P) hk
  have a := optw_len (wK_pos 1024 P) h1
  have b := wsum_le hP w h1.1
  have c := h1.2
  rw [h2] at c
  unfold Dr
  omega
def rkM (M : qv_Mem) (r : Nat → Nat) : Prop := ∀ k, k < 192 → M.1 69 k = nI (r k)
def zr9 (M N : qv_Mem) : Prop := N.2 = M.2 ∧ ∀ a, a ≠ 69 → N.1 a = M.1 a
theorem zr9.rf (M : qv_Mem) : zr9 M M := ⟨rfl, fun _ _ => rfl⟩
theorem zr9.tr {M N Q : qv_Mem} (h : zr9 M N) (k : zr9 N Q) : zr9 M Q := ⟨k.1.trans h.1, fun a ha => (k.2 a ha).trans (h.2 a ha)⟩
theorem zr9_u (M : qv_Mem) (j : Nat) (v : Int32) : zr9 M (qv_upI M 69 j v) := ⟨rfl, fun a ha => zup_ne ha⟩
def pPg (M : qv_Mem) (P : Nat → Nat) : Prop := ∀ g ∈ pgs, M.1 70 g = nI (P g)
theorem x_weight {M : qv_Mem} {P : Nat → Nat} (h : pPg M P) {g : Nat} (hg : g ∈ pgs) : f_X2_weightOf qv_TT 63 (nI g) M = some (nI (wK 1024 P g)) := by
  unfold f_X2_weightOf
  rw [zt_cl.2.2.2.2.2.2.1, zi_ldI (pgs_lt hg) (by omega), h g hg, show (1024 : Int32) = nI 1024 from rfl, zi_mul, nI_1]
  rfl
theorem x_imp22 {M : qv_Mem} {P : Nat → Nat} (hk9 : zPk P) (hP : pPg M P) (hB : ∀ g ∈ pgs, zbh M g 192) {k : Nat} (hk : k < 192) (kk : Int32 → qv_Mem → Option (Int32 × qv_Mem)) {s : Bool × (Nat → Nat)} (hs : ∀ x, s.2 x ≤ 1073741824) {N0 : qv_Mem} (h0 : rkM N0 s.2) (hz : zr9 M N0) : ∃ N, qv_lp3 (b_X2_improveRanks_22 63 qv_TT (nI k) kk) qv_N (y_b2i s.1) 0 N0 = kk (y_b2i (rlg (wK 1024 P) s k 5).1) N ∧ rkM N (rlg (wK 1024 P) s k 5).2 ∧ zr9 M N ∧ ∀ x, (rlg (wK 1024 P) s k 5).2 x ≤ 1073741824 := by
  rw [zi_0]
  have key1 := zinv3 (b := b_X2_improveRanks_22 63 qv_TT (nI k) kk) (k := kk) (fun i v N => v = y_b2i (rlg (wK 1024 P) s k i).1 ∧ rkM N (rlg (wK 1024 P) s k i).2 ∧ zr9 M N ∧ ∀ x, (rlg (wK 1024 P) s k i).2 x ≤ 1073741824) 0 5 (by omega) (fun i v N r _ hi hN => ?_) (fun v N r _ => ?_) qv_N (qv_N_gt _ (by omega)) (y_b2i s.1) N0 ⟨rfl, h0, hz, hs⟩
  · obtain ⟨v, N, ⟨a1, a2, a3, a4⟩, e⟩ := key1
    rw [a1] at e
    exact ⟨N, e, a2, a3, a4⟩
  · obtain ⟨n1, n2, n3, n4⟩ := hN
    have hg := (zpg i hi).2
    have g7 := pgs_lt hg
    have bl := (cl_beh hk hg).2
    have wl := wK_le hk9 g7
    generalize hS : rlg (wK 1024 P) s k i = S at n1 n2 n4
    have eS : rlg (wK 1024 P) s k (i + 1) = rl1 (wK 1024 P) S k (pgs.getD i 0) := by rw [← hS]; rfl
    rw [eS]
    generalize hgi : pgs.getD i 0 = g at hg g7 bl wl eS ⊢
    have hPN : pPg N P := fun g hg => by rw [n3.2 70 (by omega)]; exact hP g hg
    have hBN : N.1 65 (7 * k + g) = nI (beh k g) := by rw [n3.2 65 (by omega)]; exact hB g hg k hk
    have b1 := n4 k
    have b2 := n4 (beh k g)
    unfold b_X2_improveRanks_22
    rw [zl5i, if_neg (zi_nle (a := 5) (b := i) (by omega) (by omega)), zi_ldP hi, hgi, zt_cl.2.1, zt_cl.2.2.2.2.2.1, zl7, zi_mul, nI_add, zi_ldI (by omega) (by omega), Nat.mul_comm k 7, hBN, zi_ldI hk (by omega), n2 k hk, x_weight hPN hg, zbo, zi_ldI bl (by omega), n2 _ bl, zjn, nI_add, nI_1]
    unfold rl1
    by_cases c : S.2 k + wK 1024 P g < S.2 (beh k g)
    · rw [if_neg (zi_nle c (by omega)), zi_stI bl (by omega), if_pos c]
      refine ⟨1, _, ⟨rfl, fun x hx => ?_, n3.tr (zr9_u _ _ _), fun x => ?_⟩, rfl⟩
      · rw [zup_at]
        dsimp only
        split
        · rfl
        · exact n2 x hx
      · dsimp only
        split
        · omega
        · exact n4 x
    · rw [if_pos (nI_le (by omega) (by omega)), if_neg c]
      exact ⟨v, N, ⟨n1, n2, n3, n4⟩, rfl⟩
  · unfold b_X2_improveRanks_22
    rw [zl5i, if_pos (nI_le (Nat.le_refl _) (by omega))]
theorem x_improve {M : qv_Mem} {P : Nat → Nat} (hk9 : zPk P) (hP : pPg M P) (hB : ∀ g ∈ pgs, zbh M g 192) {r : Nat → Nat} (hr : ∀ x, r x ≤ 1073741824) (h0 : rkM M r) : ∃ N, f_X2_improveRanks qv_TT 63 M = some (y_b2i (rlp (wK 1024 P) (false, r) 192).1, N) ∧ rkM N (rlp (wK 1024 P) (false, r) 192).2 ∧ zr9 M N := by
  unfold f_X2_improveRanks
  rw [zjn, zi_0]
  have key1 := zinv3 (b := b_X2_improveRanks_4 63 qv_TT (fun (v1 : Int32) (M2 : qv_Mem) => qv_gd (qv_01 v1) (some (v1, M2)))) (k := (fun (v1 : Int32) (M2 : qv_Mem) => qv_gd (qv_01 v1) (some (v1, M2)))) (fun k v N => v = y_b2i (rlp (wK 1024 P) (false, r) k).1 ∧ rkM N (rlp (wK 1024 P) (false, r) k).2 ∧ zr9 M N ∧ ∀ x, (rlp (wK 1024 P) (false, r) k).2 x ≤ 1073741824) 0 192 (by omega) (fun k v N rr _ hk hN => ?_) (fun v N rr _ => ?_) qv_N (qv_N_gt _ (by omega)) (nI 0) M ⟨rfl, h0, zr9.rf _, hr⟩
  · obtain ⟨v, N, ⟨a1, a2, a3, a4⟩, e⟩ := key1
    refine ⟨N, ?_, a2, a3⟩
    rw [e, a1]
    have q : ∀ b : Bool, qv_01 (y_b2i b) = true := by decide
    rw [q, zgd]
  · obtain ⟨n1, n2, n3, n4⟩ := hN
    unfold b_X2_improveRanks_4
    rw [zl192, if_neg (zi_nle (a := 192) (b := k) (by omega) (by omega)), zjn, n1]
    obtain ⟨N1, e1, c1, c2, c3⟩ := x_imp22 (M := M) hk9 hP hB hk (fun (v8 : Int32) (M9 : qv_Mem) => rr v8 (nI k + 1) M9) n4 n2 n3
    rw [e1, nI_1]
    exact ⟨_, N1, ⟨rfl, c1, c2, c3⟩, rfl⟩
  · unfold b_X2_improveRanks_4
    rw [zl192, if_pos (nI_le (Nat.le_refl _) (by omega))]
theorem x_rk71 {P : Nat → Nat} (hk9 : zPk P) : ∀ (n p f : Nat) (b : Bool) (M : qv_Mem) (r : Nat → Nat), p + n = 192 → n < f → pPg M P → (∀ g ∈ pgs, zbh M g 192) → (∀ x, r x ≤ 1073741824) → rkM M r → rlJ (wK 1024 P) p r → (b = false → rlF (wK 1024 P) r) → ∃ N, qv_lp3 (b_X2_rankBy_71 63 qv_TT (fun M9 => some M9)) f (y_b2i b) (nI p) M = some N ∧ (∀ k, k < 192 → N.1 69 k = nI (Dr P k)) ∧ zr9 M N := by
  intro n
  induction n with
  | zero =>
    intro p f b M r hp hf hP hB hr h0 hJ hF
    obtain ⟨f, rfl⟩ : ∃ g, f = g + 1 := ⟨f - 1, by omega⟩
    show ∃ N, b_X2_rankBy_71 63 qv_TT (fun M9 => some M9) (qv_lp3 (b_X2_rankBy_71 63 qv_TT (fun M9 => some M9)) f) (y_b2i b) (nI p) M = some N ∧ _
    unfold b_X2_rankBy_71
    rw [zl192, if_pos (nI_le (by omega) (by omega))]
    exact ⟨M, rfl, fun k hk => by rw [h0 k hk, rlJ_fin (wK_pos 1024 P) hJ (by omega) k hk]; rfl, zr9.rf _⟩
  | succ n ih =>
    intro p f b M r hp hf hP hB hr h0 hJ hF
    obtain ⟨f, rfl⟩ : ∃ g, f = g + 1 := ⟨f - 1, by omega⟩
    show ∃ N, b_X2_rankBy_71 63 qv_TT (fun M9 => some M9) (qv_lp3 (b_X2_rankBy_71 63 qv_TT (fun M9 => some M9)) f) (y_b2i b) (nI p) M = some N ∧ _
    have ih1 := ih (p + 1) f
    generalize qv_lp3 (b_X2_rankBy_71 63 qv_TT (fun M9 => some M9)) f = rr at ih1 ⊢
    unfold b_X2_rankBy_71
    rw [zl192, if_neg (zi_nle (a := 192) (b := p) (by omega) (by omega))]
    cases b with
    | false =>
      rw [if_pos (show y_b2i false = 0 by decide)]
      exact ⟨M, rfl, fun k hk => by rw [h0 k hk, hF rfl k hk]; rfl, zr9.rf _⟩
    | true =>
      rw [if_neg (show ¬ y_b2i true = 0 by decide)]
      obtain ⟨N, e1, c1, c2⟩ := x_improve hk9 hP hB hr h0
      obtain ⟨j1, j2, j3⟩ := rlJ_pass hJ
      rw [e1, zbp, nI_1]
      obtain ⟨N2, e2, d1, d2⟩ := ih1 (rlp (wK 1024 P) (false, r) 192).1 N (rlp (wK 1024 P) (false, r) 192).2 (by omega) (by omega) (fun g hg => by rw [c2.2 70 (by omega)]; exact hP g hg) (fun g hg k hk => by rw [c2.2 65 (by omega)]; exact hB g hg k hk) (fun x => Nat.le_trans (j3 x) (hr x)) c1 j1 j2
      exact ⟨N2, e2, d1, c2.tr d2⟩
