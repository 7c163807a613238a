/-! write: the class's call. -/
theorem lv_nil {lv : List (List Nat × Nat)} (h : lv.length = 0) : lv = [] := List.length_eq_zero_iff.mp h
theorem zTp.fr {M M1 : qv_Mem} {B : List Nat} {S : Nat → Prop} (h : zTp M B) (f : zfr S M M1) (h56 : ¬ S 56) (h57 : ¬ S 57) : zTp M1 B := by
  unfold zTp
  rw [f.2.2 56 h56, f.1 57 h57]
  exact h
def lvg (lv : List (List Nat × Nat)) : Prop := ∀ x ∈ lv, ∀ g ∈ x.1, g < 7
theorem x_rd24 {B : List Nat} (hk : zBk B) (kk : qv_Mem → Option (Int32 × qv_Mem)) : ∀ (d i f : Nat) (M : qv_Mem) (lv : List (List Nat × Nat)) (c : List Nat) (t : Nat) (n : Bool), i + d = B.length → d < f → zTp M B → zRd M lv c [] t → lvb lv → lvg lv → c.length ≤ 60 → (∀ g ∈ c, g < 7) → t ≤ i → (∀ x ∈ lv, x.2 ≤ i) → FF B i lv.length n = none → ∃ N, zfr zSD M N ∧ (∀ c2, RR B i lv c t = some c2 → qv_lp2 (b_X5_read_24 58 56 qv_TT kk) f (nI i) M = kk N ∧ rwR N c2 ∧ c2.length ≤ 60 ∧ ∀ g ∈ c2, g < 7) ∧ (RR B i lv c t = none → qv_lp2 (b_X5_read_24 58 56 qv_TT kk) f (nI i) M = some (0, N)) := by
  have h80 := hk.1
  intro d
  induction d with
  | zero =>
    intro i f M lv c t n hi hf hT hR hlb hvg hc hcg ht hvt hF
    obtain ⟨f, rfl⟩ : ∃ g, f = g + 1 := ⟨f - 1, by omega⟩
    have ei : i = B.length := by omega
    rw [ei, FF_end] at hF
    have l0 : lv.length = 0 := by
      by_cases z : n = true ∨ 0 < lv.length
      · rw [if_pos z] at hF; cases hF
      · omega
    rw [zN2]
    unfold b_X5_read_24
    rw [zgS, hT.1, if_pos (nI_le (by omega) (by omega))]
    refine ⟨M, zfr.rf _ _, fun c2 h2 => ?_, fun h2 => ?_⟩
    · rw [ei, RR_end] at h2
      have e := Option.some.inj h2
      have r := hR.1
      rw [lv_nil l0, List.append_nil] at r
      rw [← e]
      exact ⟨rfl, r, hc, hcg⟩
    · rw [ei, RR_end] at h2
      cases h2
  | succ d ih =>
    intro i f M lv c t n hi hf hT hR hlb hvg hc hcg ht hvt hF
    obtain ⟨f, rfl⟩ : ∃ g, f = g + 1 := ⟨f - 1, by omega⟩
    have hl : i < B.length := by omega
    rw [zN2]
    have ih1 := ih (i + 1) f
    generalize qv_lp2 (b_X5_read_24 58 56 qv_TT kk) f = rr at ih1 ⊢
    obtain ⟨q1, q2, q3⟩ := hb_in hk hl
    unfold b_X5_read_24 f_X5_readByte
    rw [zgS, hT.1, if_neg (nI_ge hl (by omega)), x_tat hk hT (by omega), zbo, if_pos hl, x_gol _ (by omega), zbo, nI_1]
    have fin : ∀ (o : Option (Int32 × qv_Mem)) (lv2 : List (List Nat × Nat)) (w : Option (List Nat)) (n2 : Bool), rdR M o lv2 w → lvb lv2 → lvg lv2 → (∀ x ∈ lv2, x.2 ≤ i) → FF B (i + 1) lv2.length n2 = none → RR B i lv c t = w.bind (fun c2 => RR B (i + 1) lv2 c2 0) → ∃ N, zfr zSD M N ∧ (∀ c2, RR B i lv c t = some c2 → qv_bp o (fun v21 M22 => if v21 = 0 then some (0, M22) else rr (nI (i + 1)) M22) = kk N ∧ rwR N c2 ∧ c2.length ≤ 60 ∧ ∀ g ∈ c2, g < 7) ∧ (RR B i lv c t = none → qv_bp o (fun v21 M22 => if v21 = 0 then some (0, M22) else rr (nI (i + 1)) M22) = some (0, N)) := by
      intro o lv2 w n2 hr hb2 hvg2 hvt2 hF2 hRR
      obtain ⟨N, f1, a1, a2⟩ := hr
      cases w with
      | none =>
        rw [hRR, a2 rfl, zbp, if_pos rfl]
        exact ⟨N, f1, fun c2 h2 => (by cases h2), fun _ => rfl⟩
      | some c2 =>
        obtain ⟨e1, e2, e3, e4⟩ := a1 c2 rfl
        rw [hRR, e1, zbp, if_neg zl1n0]
        obtain ⟨Q, f2, b1, b2⟩ := ih1 N lv2 c2 0 n2 (by omega) (by omega) (hT.fr f1 (by unfold zSD; omega) (by unfold zSD; omega)) e2 hb2 hvg2 e3 e4 (Nat.zero_le _) (fun x hx => Nat.le_succ_of_le (hvt2 x hx)) hF2
        exact ⟨Q, f1.tr f2, b1, b2⟩
    rcases FF_none_lt hl hF with ⟨c1, hF2⟩ | ⟨c1, c2, hF2⟩ | ⟨c1, c2, c3, c4, hF2⟩ | ⟨c1, c2, c3, c4, c5, hF2⟩ | ⟨c1, c2, c3, c4, hF2⟩
    · rw [if_neg (by rw [zsn_neg]; exact fun q => q c1)]
      have ez : zsn (glt (hb B i)) = nI (glt (hb B i)) := by unfold zsn; rw [if_pos c1]
      rw [ez]
      exact fin _ lv (tC c t [glt (hb B i)]) false (rdR_gd (x_readGate hlb hR (by omega) hc hcg c1)) hlb hvg hvt hF2 (by rw [RR_lt hl, if_pos c1])
    · rw [if_pos (by rw [zsn_neg]; exact c1), zl126, if_pos (by rw [c2]), zgS, hR.2.2.1, zpS, nI_1, zbp, if_neg zl1n0]
      have f0 : zfr zSD M (qv_upS M 58 6 (nI (t + 1))) := ⟨fun _ _ => rfl, fun _ _ => rfl, fun a ha => zs_ne (fun e => ha (by rw [e]; unfold zSD; omega))⟩
      have hR2 : zRd (qv_upS M 58 6 (nI (t + 1))) lv c [] (t + 1) := ⟨⟨by rw [zs_ne2 (by omega)]; exact hR.1.1, hR.1.2⟩, by rw [zs_ne2 (by omega)]; exact hR.2.1, zs_at _ _ _ _, zSt_cg (M := M) (M1 := qv_upS M 58 6 (nI (t + 1))) rfl rfl lv hR.2.2.2⟩
      obtain ⟨Q, f2, b1, b2⟩ := ih1 (qv_upS M 58 6 (nI (t + 1))) lv c (t + 1) true (by omega) (by omega) (hT.fr f0 (by unfold zSD; omega) (by unfold zSD; omega)) hR2 hlb hvg hc hcg (by omega) (fun x hx => Nat.le_succ_of_le (hvt x hx)) hF2
      have e : RR B i lv c t = RR B (i + 1) lv c (t + 1) := by rw [RR_lt hl, if_neg c1, if_pos c2]
      rw [e]
      exact ⟨Q, f0.tr f2, b1, b2⟩
    · rw [if_pos (by rw [zsn_neg]; exact c1), zl126, if_neg (fun z => c2 ((nI_eq (by omega) (by omega)).mp z)), show (40 : Int32) = nI 40 from rfl, if_pos (by rw [c3])]
      obtain ⟨N, e1, e2, e3⟩ := x_openGroup hlb c4 hR hc
      rw [e1, zbp, z01a, zgd, zbp, if_neg zl1n0]
      have hb2 : lvb ((c, t) :: lv) := ⟨c4, fun x hx => by
        rcases List.mem_cons.mp hx with e | e
        · rw [e]; exact ⟨hc, by show t ≤ 100; omega⟩
        · exact hlb.2 x e⟩
      obtain ⟨Q, f2, b1, b2⟩ := ih1 N ((c, t) :: lv) [] 0 true (by omega) (by omega) (hT.fr e3 (by unfold zSD; omega) (by unfold zSD; omega)) e2 hb2 (fun x hx => by
        rcases List.mem_cons.mp hx with e | e
        · rw [e]; exact hcg
        · exact hvg x e) (Nat.zero_le _) (fun g hg => (by cases hg)) (Nat.zero_le _) (fun x hx => by
        rcases List.mem_cons.mp hx with e | e
        · rw [e]; show t ≤ i + 1; omega
        · exact Nat.le_succ_of_le (hvt x e)) hF2
      have e : RR B i lv c t = RR B (i + 1) ((c, t) :: lv) [] 0 := by rw [RR_lt hl, if_neg c1, if_neg c2, if_pos c3]
      rw [e]
      exact ⟨Q, e3.tr f2, b1, b2⟩
    · rw [if_pos (by rw [zsn_neg]; exact c1), zl126, if_neg (fun z => c2 ((nI_eq (by omega) (by omega)).mp z)), show (40 : Int32) = nI 40 from rfl, if_neg (fun z => c3 ((nI_eq (by omega) (by omega)).mp z)), show (41 : Int32) = nI 41 from rfl, if_pos (by rw [c4]), x_fig hk hT (by omega), zbo, zjn]
      cases lv with
      | nil =>
        have z : ([] : List (List Nat × Nat)).length = 0 := rfl
        omega
      | cons a lv2 =>
        obtain ⟨c0, t0⟩ := a
        have ff : ((48 ≤ hb B (i + 1) ∧ hb B (i + 1) ≤ 57) → fig B (i + 1) = hb B (i + 1) - 48) ∧ (¬ (48 ≤ hb B (i + 1) ∧ hb B (i + 1) ≤ 57) → fig B (i + 1) = 1) := by
          unfold fig
          exact ⟨fun q => if_pos q, fun q => if_neg q⟩
        have fk : fig B (i + 1) ≤ 9 := by
          by_cases q : 48 ≤ hb B (i + 1) ∧ hb B (i + 1) ≤ 57
          · rw [ff.1 q]; omega
          · rw [ff.2 q]; omega
        have cg := rdR_gd (x_closeGroup (k := fig B (i + 1)) hlb hR hc hcg (hvg (c0, t0) List.mem_cons_self) fk)
        have st : (if 0 ≤ (if 48 ≤ hb B (i + 1) ∧ hb B (i + 1) ≤ 57 then nI (hb B (i + 1) - 48) else -2) then (fun (v4 : Int32) => qv_bp (f_X5_closeGroup qv_TT 58 v4 M) (fun v6 M7 => qv_gd (qv_01 v6) (some (v6, M7)))) (if 48 ≤ hb B (i + 1) ∧ hb B (i + 1) ≤ 57 then nI (hb B (i + 1) - 48) else -2) else (fun (v4 : Int32) => qv_bp (f_X5_closeGroup qv_TT 58 v4 M) (fun v6 M7 => qv_gd (qv_01 v6) (some (v6, M7)))) 1) = qv_bp (f_X5_closeGroup qv_TT 58 (nI (fig B (i + 1))) M) (fun v6 M7 => qv_gd (qv_01 v6) (some (v6, M7))) := by
          by_cases q : 48 ≤ hb B (i + 1) ∧ hb B (i + 1) ≤ 57
          · rw [if_pos q, if_pos (nI_pos' (by omega)), ff.1 q]
          · rw [if_neg q, if_neg (by decide), ff.2 q]
            rfl
        rw [st]
        have hb2 : lvb lv2 := ⟨by have := hlb.1; have e : ((c0, t0) :: lv2).length = lv2.length + 1 := rfl; omega, fun x hx => hlb.2 x (List.mem_cons_of_mem _ hx)⟩
        exact fin _ lv2 (tC c0 t0 (rpl (fig B (i + 1)) c)) n cg hb2 (fun x hx => hvg x (List.mem_cons_of_mem _ hx)) (fun x hx => hvt x (List.mem_cons_of_mem _ hx)) hF2 (by rw [RR_lt hl, if_neg c1, if_neg c2, if_neg c3, if_pos c4])
    · rw [if_pos (by rw [zsn_neg]; exact c1), zl126, if_neg (fun z => c2 ((nI_eq (by omega) (by omega)).mp z)), show (40 : Int32) = nI 40 from rfl, if_neg (fun z => c3 ((nI_eq (by omega) (by omega)).mp z)), show (41 : Int32) = nI 41 from rfl, if_neg (fun z => c4 ((nI_eq (by omega) (by omega)).mp z)), zbp, if_neg zl1n0]
      obtain ⟨Q, f2, b1, b2⟩ := ih1 M lv c t n (by omega) (by omega) hT hR hlb hvg hc hcg (by omega) (fun x hx => Nat.le_succ_of_le (hvt x hx)) hF2
      have e : RR B i lv c t = RR B (i + 1) lv c t := by rw [RR_lt hl, if_neg c1, if_neg c2, if_neg c3, if_neg c4]
      rw [e]
      exact ⟨Q, f2, b1, b2⟩
theorem x_rd56 {c : List Nat} (hc : c.length ≤ 60) : ∀ (n i f : Nat) (M : qv_Mem), i + n = c.length → n < f → rwR M c → zR M 96 97 (c.take i) → ∃ N, qv_lp2 (b_X5_read_56 58 96 qv_TT (fun M8 => some (1, M8))) f (nI i) M = some (1, N) ∧ zR N 96 97 c ∧ zow M N 96 97 := by
  intro n
  induction n with
  | zero =>
    intro i f M hi hf hR hD
    obtain ⟨f, rfl⟩ : ∃ g, f = g + 1 := ⟨f - 1, by omega⟩
    rw [zN2]
    unfold b_X5_read_56
    rw [zgS, hR.1, if_pos (nI_le (by omega) (by omega))]
    rw [show i = c.length by omega, List.take_length] at hD
    exact ⟨M, rfl, hD, zow.rf _ _ _⟩
  | succ n ih =>
    intro i f M hi hf hR hD
    obtain ⟨f, rfl⟩ : ∃ g, f = g + 1 := ⟨f - 1, by omega⟩
    rw [zN2]
    have ih1 := ih (i + 1) f
    generalize qv_lp2 (b_X5_read_56 58 96 qv_TT (fun M8 => some (1, M8))) f = rr at ih1 ⊢
    unfold b_X5_read_56
    obtain ⟨N, e1, h1, k1⟩ := (w_add1 hD (c.getD i 0)).1 (by rw [List.length_take]; omega)
    rw [zgS, hR.1, if_neg (nI_ge (show i < c.length by omega) (by omega)), zt_rd.1, zi_ldI (by omega) (by omega), hR.2 i (by omega), e1, zbp, if_neg zl1n0, nI_1]
    rw [← take_snoc (by omega)] at h1
    have hR1 : rwR N c := by
      unfold rwR
      rw [k1.2.2 58 4 (by omega), k1.2.1 59 (by omega)]
      exact hR
    obtain ⟨Q, e2, h2, k2⟩ := ih1 N (by omega) (by omega) hR1 h1
    exact ⟨Q, e2, h2, k1.tr k2⟩
def zSE (a : Nat) : Prop := zSD a ∨ a = 96 ∨ a = 97
theorem x_read {M : qv_Mem} {B : List Nat} (hk : zBk B) (hT : zTp M B) (hF : FF B 0 0 true = none) : ∃ N, zfr zSE M N ∧ (∀ c, RR B 0 [] [] 0 = some c → f_X5_read qv_TT 58 56 96 M = some (1, N) ∧ zR N 96 97 c ∧ c.length ≤ 60 ∧ ∀ g ∈ c, g < 7) ∧ (RR B 0 [] [] 0 = none → f_X5_read qv_TT 58 56 96 M = some (0, N)) := by
  have h80 := hk.1
  unfold f_X5_read
  rw [zpS, zpS, zpS, zt_rd.2.2.1, zi_0, zi_stI (by omega) (by omega), zjn]
  generalize hM4 : qv_upI (qv_upS (qv_upS (qv_upS M 58 4 (nI 0)) 58 5 (nI 0)) 58 6 (nI 0)) 61 0 (nI 0) = M4
  have f4 : zfr zSD M M4 := by
    rw [← hM4]
    refine ⟨fun a ha => ?_, fun _ _ => rfl, fun a ha => ?_⟩
    · rw [zup_ne (fun e => ha (by rw [e]; unfold zSD; omega))]
      rfl
    · have h58 : a ≠ 58 := fun e => ha (by rw [e]; unfold zSD; omega)
      rw [zup_s, zs_ne h58, zs_ne h58, zs_ne h58]
  have r4 : zRd M4 [] [] [] 0 := by
    rw [← hM4]
    refine ⟨⟨?_, fun i hi => (by cases hi)⟩, ?_, ?_, ?_⟩
    · rw [zup_s, zs_ne2 (by omega), zs_ne2 (by omega), zs_at]
      rfl
    · rw [zup_s, zs_ne2 (by omega), zs_at]
      rfl
    · rw [zup_s, zs_at]
    · show (qv_upI _ 61 0 (nI 0)).1 61 0 = nI 0
      rw [zup_at, if_pos rfl]
  obtain ⟨N, f1, a1, a2⟩ := x_rd24 hk (fun (M5 : qv_Mem) => qv_pS 96 1 (nI 0) M5 (fun M7 => qv_jn (fun (M8 : qv_Mem) => some ((1 : Int32), M8)) (fun k9 => qv_lp2 (b_X5_read_56 58 96 qv_TT k9) qv_N (nI 0) M7))) B.length 0 qv_N M4 [] [] 0 true (by omega) (qv_N_gt _ (by omega)) (hT.fr f4 (by unfold zSD; omega) (by unfold zSD; omega)) r4 ⟨Nat.zero_le _, fun x hx => (by cases hx)⟩ (fun x hx => (by cases hx)) (Nat.zero_le _) (fun g hg => (by cases hg)) (Nat.zero_le _) (fun x hx => (by cases hx)) hF
  cases e : RR B 0 [] [] 0 with
  | none => exact ⟨N, (f4.tr f1).mono (fun a ha => Or.inl ha), fun c hc => (by cases hc), fun _ => a2 e⟩
  | some c =>
    obtain ⟨e1, r1, c60, cg⟩ := a1 c e
    rw [e1, zpS, zjn]
    have k0 := zow_S N 96 97 (nI 0)
    have hD : zR (qv_upS N 96 1 (nI 0)) 96 97 (c.take 0) := ⟨zs_at _ _ _ _, Nat.zero_le _, fun i hi => (by cases hi)⟩
    have r1' : rwR (qv_upS N 96 1 (nI 0)) c := ⟨by rw [zs_ne2 (by omega)]; exact r1.1, r1.2⟩
    obtain ⟨Q, e2, h2, k2⟩ := x_rd56 c60 c.length 0 qv_N (qv_upS N 96 1 (nI 0)) (by omega) (qv_N_gt _ (by omega)) r1' hD
    refine ⟨Q, ((f4.tr f1).mono (fun a ha => Or.inl ha)).tr ((k0.tr k2).fr.mono (fun a ha => Or.inr ha)), fun c2 hc2 => ?_, fun hn => (by cases hn)⟩
    have ec := Option.some.inj hc2
    rw [← ec]
    exact ⟨e2, h2, c60, cg⟩
noncomputable def a_write (W : Nat → List Nat) (Hs : List (Nat × List Nat)) (B : List Nat) (p : Int32) : zWH := if zr p 3 then (-1, W, Hs) else if (pT B).1 = true ∧ (pT B).2.1 = B.length then (match (pT B).2.2 with | some c => a_bec W Hs p.toNatClampNeg c | none => (-3, W, Hs)) else (-100 - nI (pT B).2.1, W, Hs)
def a_writeB (B : List Nat) (p : Int32) : List Nat := if zr p 3 then B else []
def zSX (a : Nat) : Prop := (56 ≤ a ∧ a ≤ 62) ∨ zSW a
theorem x_write {M : qv_Mem} {W : Nat → List Nat} {Hs : List (Nat × List Nat)} {B : List Nat} (hW : zCW M W) (hk : zWk W) (hH : zH M Hs) (hB : zBk B) (hT : zTp M B) (p : Int32) : ∃ M1, f_X9_write qv_TT 0 p M = some ((a_write W Hs B p).1, M1) ∧ zCW M1 (a_write W Hs B p).2.1 ∧ zH M1 (a_write W Hs B p).2.2 ∧ zTp M1 (a_writeB B p) ∧ zfr zSX M M1 := by
  have h80 := hB.1
  unfold f_X9_write a_write a_writeB
  rcases zr_in p 3 with ⟨w, hw, w2, rfl⟩ | h
  · rw [x_isWord hw, zbo, if_neg zl1n0, if_neg (zr_n hw w2), if_neg (zr_n hw w2), zt_tape, zt_rd.2.2.2.2, zt_draft, x_findFault hB hT, zbo, zjn, FF_top h80, zi_cl w2]
    have wipe : ∀ N : qv_Mem, zfr (fun a => a = 56 ∨ a = 57) N (qv_upS N 56 1 0) ∧ zTp (qv_upS N 56 1 0) [] := fun N => ⟨⟨fun _ _ => rfl, fun _ _ => rfl, fun a ha => zs_ne (by omega)⟩, by rw [zs_at]; rfl, Nat.zero_le _, fun i hi => (by cases hi)⟩
    by_cases c : (pT B).1 = true ∧ (pT B).2.1 = B.length
    · rw [if_pos c, if_pos c]
      have hF : FF B 0 0 true = none := by rw [FF_top h80, if_pos c]
      obtain ⟨N, f1, a1, a2⟩ := x_read hB hT hF
      rw [RR_top h80 c.1 c.2] at a1 a2
      obtain ⟨f2, t2⟩ := wipe N
      have hW2 := (hW.fr f1 (fun a _ _ => by unfold zSE zSD; omega)).fr f2 (fun a _ _ => by omega)
      have hH2 := (hH.fr f1 (fun a _ _ => by unfold zSE zSD; omega)).fr f2 (fun a _ _ => by omega)
      have f12 : zfr zSX M (qv_upS N 56 1 0) := (f1.mono (fun a ha => by unfold zSE zSD at ha; unfold zSX zSW; omega)).tr (f2.mono (fun a ha => by unfold zSX; omega))
      show ∃ M1, (if (0 : Int32) ≤ -2 then _ else _) = _ ∧ _
      rw [if_neg zln2]
      cases e : (pT B).2.2 with
      | none =>
        rw [a2 e, zbp, if_pos rfl]
        dsimp only
        rw [zpS, if_pos (show ffI none < 0 by decide), if_pos rfl]
        exact ⟨_, rfl, hW2, hH2, t2, f12⟩
      | some c2 =>
        obtain ⟨e1, h1, c60, cg⟩ := a1 c2 e
        rw [e1, zbp, if_neg zl1n0]
        dsimp only
        rw [zpS, if_pos (show ffI none < 0 by decide), if_neg zl1n0]
        obtain ⟨Q, e3, g1, g2, k2⟩ := x_settleW hW2 hk hH2 hw (h1.fr f2 (by omega) (by omega)) cg
        rw [e3, zbp]
        exact ⟨Q, rfl, g1, g2, t2.fr k2 (by unfold zSW; omega) (by unfold zSW; omega), f12.tr (k2.mono (fun a ha => Or.inr ha))⟩
    · rw [if_neg c, if_neg c]
      have pl : (pT B).2.1 ≤ 80 := by
        obtain ⟨k1, k2⟩ := (F_all h80 200).2 0 0 (by omega) (by omega) (by omega) (fun h => by omega)
        have e : (pIt B 200).2 0 0 = pT B := rfl
        rw [e] at k1 k2
        by_cases z : (pT B).1 = true
        · have := (k1 z).2.2.1; omega
        · rw [Bool.not_eq_true] at z
          have := (k2 z).2; omega
      obtain ⟨f2, t2⟩ := wipe M
      show ∃ M1, (if (0 : Int32) ≤ nI (pT B).2.1 then _ else _) = _ ∧ _
      rw [if_pos (nI_pos' (by omega))]
      dsimp only
      rw [zpS, if_neg (show ¬ ffI (some (pT B).2.1) < 0 from nI_pos (by omega))]
      exact ⟨_, rfl, hW.fr f2 (fun a _ _ => by omega), hH.fr f2 (fun a _ _ => by omega), t2, f2.mono (fun a ha => by unfold zSX; omega)⟩
  · rw [x_isWord0 h, zbo, if_pos rfl, if_pos h, if_pos h]
    exact ⟨M, rfl, hW, hH, hT, zfr.rf _ _⟩
