/-! What both sides hold, together; each call keeps it and answers alike. -/
def IC (M : qv_Mem) (R : Nat → zq_T) (W : Nat → List Nat) (P : Nat → Nat) (Hs : List (Nat × List Nat)) (B : List Nat) (K : Option zBT) : Prop := zCR M R ∧ zCW M W ∧ zCP M P ∧ zH M Hs ∧ zTp M B ∧ zKp M K ∧ zCl M ∧ zRs M
def IM (M : qv_Mem) (R : Nat → zq_T) (W : Nat → List Nat) (P : Nat → Nat) (Hs : List (Nat × List Nat)) (B : List Nat) (K : Option zBT) : Prop := zMR M R ∧ zMC M ∧ yW M W ∧ yP M P ∧ yH M Hs ∧ yTp M B ∧ yKp M K ∧ yCl M
def IK (R : Nat → zq_T) (W : Nat → List Nat) (P : Nat → Nat) (Hs : List (Nat × List Nat)) (B : List Nat) (K : Option zBT) : Prop := zRk R ∧ zWk W ∧ zPk P ∧ zHk Hs ∧ zBk B ∧ zKk K
def Inv (M : qv_Mem) : Prop := ∃ R W P Hs B K, IC M R W P Hs B K ∧ IM M R W P Hs B K ∧ IK R W P Hs B K
theorem zRs.fr {M M1 : qv_Mem} {S : Nat → Prop} (h : zRs M) (f : zfr S M M1) (h3 : ¬ S 63) (h9 : ¬ S 69) (h0 : ¬ S 70) : zRs M1 := by
  unfold zRs zRn pPg at h ⊢
  rw [f.2.2 63 h3, f.1 69 h9, f.1 70 h0]
  exact h
theorem zRs.cg {M M1 : qv_Mem} (h : zRs M) (h3 : M1.2.2 63 9 = M.2.2 63 9) (h9 : M1.1 69 = M.1 69) (h0 : M1.1 70 = M.1 70) : zRs M1 := by
  unfold zRs zRn pPg at h ⊢
  rw [h3, h9, h0]
  exact h
theorem zCP.fr {M M1 : qv_Mem} {P : Nat → Nat} {S : Nat → Prop} (h : zCP M P) (f : zfr S M M1) (h4 : ¬ S 4) : zCP M1 P := fun g hg => by rw [f.1 4 h4]; exact h g hg
abbrev hiF (M M1 : qv_Mem) : Prop := zfr (fun a => 106 ≤ a) M M1
theorem IC.lo {M M1 : qv_Mem} {R : Nat → zq_T} {W : Nat → List Nat} {P : Nat → Nat} {Hs : List (Nat × List Nat)} {B : List Nat} {K : Option zBT} (h : IC M R W P Hs B K) (f : hiF M M1) : IC M1 R W P Hs B K := by
  obtain ⟨h1, h2, h3, h4, h5, h6, h7, h8⟩ := h
  exact ⟨h1.fr f (fun a _ _ => by omega), h2.fr f (fun a _ _ => by omega), h3.fr f (by omega), h4.fr f (fun a _ _ => by omega), h5.fr f (by omega) (by omega), h6.fr f (by omega) (fun a _ _ => by omega), h7.fr f (fun a _ _ => by omega), h8.fr f (by omega) (by omega) (by omega)⟩
theorem zMR.cg {M M1 : qv_Mem} {R : Nat → zq_T} (h : zMR M R) (e : M1.2.1 107 = M.2.1 107) : zMR M1 R := fun r hr => by
  have := h r hr
  unfold zS at this ⊢
  rw [e]
  exact this
theorem zMC.cg {M M1 : qv_Mem} (h : zMC M) (e : M1.2.1 107 = M.2.1 107) : zMC M1 := by
  unfold zMC zS at h ⊢
  rw [e]
  exact h
theorem yW.cg {M M1 : qv_Mem} {W : Nat → List Nat} (h : yW M W) (e : M1.1 112 = M.1 112) (e2 : M1.1 113 = M.1 113) : yW M1 W := by
  unfold yW
  rw [e, e2]
  exact h
theorem yP.cg {M M1 : qv_Mem} {P : Nat → Nat} (h : yP M P) (e : M1.1 110 = M.1 110) : yP M1 P := fun g hg => by rw [e]; exact h g hg
theorem yH.cg {M M1 : qv_Mem} {Hs : List (Nat × List Nat)} (h : yH M Hs) (e1 : M1.1 123 = M.1 123) (e2 : M1.1 124 = M.1 124) (e3 : M1.1 125 = M.1 125) (e4 : M1.2.2 106 22 = M.2.2 106 22) : yH M1 Hs := by
  unfold yH
  rw [e1, e2, e3, e4]
  exact h
theorem yTp.cg {M M1 : qv_Mem} {B : List Nat} (h : yTp M B) (e : M1.1 126 = M.1 126) (e2 : M1.2.2 106 24 = M.2.2 106 24) : yTp M1 B := by
  unfold yTp
  rw [e, e2]
  exact h
theorem yCl.cg {M M1 : qv_Mem} (h : yCl M) (e1 : M1.2.1 108 = M.2.1 108) (e2 : M1.1 118 = M.1 118) (e3 : M1.1 119 = M.1 119) (e4 : M1.2.2 106 14 = M.2.2 106 14) : yCl M1 := by
  unfold yCl zS at h ⊢
  rw [e1, e2, e3, e4]
  exact h
theorem IM.hi {M M1 : qv_Mem} {R : Nat → zq_T} {W : Nat → List Nat} {P : Nat → Nat} {Hs : List (Nat × List Nat)} {B : List Nat} {K : Option zBT} {S : Nat → Prop} (h : IM M R W P Hs B K) (f : zfr S M M1) (hS : ∀ a, 106 ≤ a → ¬ S a) : IM M1 R W P Hs B K := by
  obtain ⟨h1, h2, h3, h4, h5, h6, h7, h8⟩ := h
  have i := fun a ha => f.1 a (hS a ha)
  have l := fun a ha => f.2.1 a (hS a ha)
  have s := f.2.2 106 (hS 106 (by omega))
  exact ⟨h1.cg (l 107 (by omega)), h2.cg (l 107 (by omega)), h3.cg (i 112 (by omega)) (i 113 (by omega)), h4.cg (i 110 (by omega)), h5.cg (i 123 (by omega)) (i 124 (by omega)) (i 125 (by omega)) (by rw [s]), h6.cg (i 126 (by omega)) (by rw [s]), h7.cg (l 109 (by omega)) (i 115 (by omega)) (i 114 (by omega)) (i 111 (by omega)) (by rw [s]), h8.cg (l 108 (by omega)) (i 118 (by omega)) (i 119 (by omega)) (by rw [s])⟩
/-! the class's calls, by what they write -/
theorem icR {M M1 : qv_Mem} {R R2 : Nat → zq_T} {W : Nat → List Nat} {P : Nat → Nat} {Hs : List (Nat × List Nat)} {B : List Nat} {K : Option zBT} (h : IC M R W P Hs B K) (hR : zCR M1 R2) (f : zfr zSR M M1) : IC M1 R2 W P Hs B K := by
  obtain ⟨h1, h2, h3, h4, h5, h6, h7, h8⟩ := h
  exact ⟨hR, h2.fr f (fun a _ _ => by unfold zSR; omega), h3.fr f (by unfold zSR; omega), h4.fr f (fun a _ _ => by unfold zSR; omega), h5.fr f (by unfold zSR; omega) (by unfold zSR; omega), h6.fr f (by unfold zSR; omega) (fun a _ _ => by unfold zSR; omega), h7.fr f (fun a _ _ => by unfold zSR; omega), h8.fr f (by unfold zSR; omega) (by unfold zSR; omega) (by unfold zSR; omega)⟩
theorem icW {M M1 : qv_Mem} {R : Nat → zq_T} {W W2 : Nat → List Nat} {P : Nat → Nat} {Hs Hs2 : List (Nat × List Nat)} {B : List Nat} {K : Option zBT} (h : IC M R W P Hs B K) (hW : zCW M1 W2) (hH : zH M1 Hs2) (f : zfr zSW M M1) : IC M1 R W2 P Hs2 B K := by
  obtain ⟨h1, h2, h3, h4, h5, h6, h7, h8⟩ := h
  exact ⟨h1.fr f (fun a _ _ => by unfold zSW; omega), hW, h3.fr f (by unfold zSW; omega), hH, h5.fr f (by unfold zSW; omega) (by unfold zSW; omega), h6.fr f (by unfold zSW; omega) (fun a _ _ => by unfold zSW; omega), h7.fr f (fun a _ _ => by unfold zSW; omega), h8.fr f (by unfold zSW; omega) (by unfold zSW; omega) (by unfold zSW; omega)⟩
theorem icN {M M1 : qv_Mem} {R : Nat → zq_T} {W : Nat → List Nat} {P : Nat → Nat} {Hs : List (Nat × List Nat)} {B : List Nat} {K : Option zBT} {S : Nat → Prop} (h : IC M R W P Hs B K) (f : zfr S M M1) (hS : ∀ a, a ≤ 72 → ¬ S a) : IC M1 R W P Hs B K := by
  obtain ⟨h1, h2, h3, h4, h5, h6, h7, h8⟩ := h
  exact ⟨h1.fr f (fun a _ _ => hS a (by omega)), h2.fr f (fun a _ _ => hS a (by omega)), h3.fr f (hS _ (by omega)), h4.fr f (fun a _ _ => hS a (by omega)), h5.fr f (hS _ (by omega)) (hS _ (by omega)), h6.fr f (hS _ (by omega)) (fun a _ _ => hS a (by omega)), h7.fr f (fun a _ _ => hS a (by omega)), h8.fr f (hS _ (by omega)) (hS _ (by omega)) (hS _ (by omega))⟩
/-! the reference's calls, by what they write -/
theorem imR {M M1 : qv_Mem} {R R2 : Nat → zq_T} {W : Nat → List Nat} {P : Nat → Nat} {Hs : List (Nat × List Nat)} {B : List Nat} {K : Option zBT} (h : IM M R W P Hs B K) (hR : zMR M1 R2) (hC : zMC M1) (f : zfr zSM M M1) : IM M1 R2 W P Hs B K := by
  obtain ⟨h1, h2, h3, h4, h5, h6, h7, h8⟩ := h
  have n : ∀ a, a ≠ 107 → ¬ zSM a := fun a ha => ha
  exact ⟨hR, hC, h3.cg (f.1 _ (n _ (by omega))) (f.1 _ (n _ (by omega))), h4.cg (f.1 _ (n _ (by omega))), h5.cg (f.1 _ (n _ (by omega))) (f.1 _ (n _ (by omega))) (f.1 _ (n _ (by omega))) (by rw [f.2.2 106 (n _ (by omega))]), h6.cg (f.1 _ (n _ (by omega))) (by rw [f.2.2 106 (n _ (by omega))]), h7.cg (f.2.1 _ (n _ (by omega))) (f.1 _ (n _ (by omega))) (f.1 _ (n _ (by omega))) (f.1 _ (n _ (by omega))) (by rw [f.2.2 106 (n _ (by omega))]), h8.cg (f.2.1 _ (n _ (by omega))) (f.1 _ (n _ (by omega))) (f.1 _ (n _ (by omega))) (by rw [f.2.2 106 (n _ (by omega))])⟩
theorem zSM.hi {M M1 : qv_Mem} (f : zfr zSM M M1) : hiF M M1 := f.mono (fun a ha => by unfold zSM at ha; omega)
theorem imW {M M1 : qv_Mem} {R : Nat → zq_T} {W W2 : Nat → List Nat} {P : Nat → Nat} {Hs Hs2 : List (Nat × List Nat)} {B : List Nat} {K : Option zBT} (h : IM M R W P Hs B K) (hW : yW M1 W2) (hH : yH M1 Hs2) (f : yfr M M1) : IM M1 R W2 P Hs2 B K := by
  obtain ⟨h1, h2, h3, h4, h5, h6, h7, h8⟩ := h
  exact ⟨h1.cg (by rw [f.1]), h2.cg (by rw [f.1]), hW, h4.cg (f.2.1 _ (by omega)), hH, h6.cg (f.2.1 _ (by omega)) (f.2.2 _ _ (by omega)), h7.cg (by rw [f.1]) (f.2.1 _ (by omega)) (f.2.1 _ (by omega)) (f.2.1 _ (by omega)) (f.2.2 _ _ (by omega)), h8.cg (by rw [f.1]) (f.2.1 _ (by omega)) (f.2.1 _ (by omega)) (f.2.2 _ _ (by omega))⟩
theorem yfr.hi {M M1 : qv_Mem} (f : yfr M M1) : hiF M M1 := ⟨fun a ha => f.2.1 a (by omega), fun a _ => by rw [f.1], fun a ha => by funext k; exact f.2.2 a k (by omega)⟩
theorem zsc.hi {M M1 : qv_Mem} {S : Nat → Prop} (f : zsc M M1 S) : hiF M M1 := ⟨fun a _ => by rw [f.1], fun a ha => f.2.2.1 a (by omega), fun a _ => by rw [f.2.1]⟩
theorem imC {M M1 : qv_Mem} {R : Nat → zq_T} {W : Nat → List Nat} {P : Nat → Nat} {Hs : List (Nat × List Nat)} {B : List Nat} {K : Option zBT} {S : Nat → Prop} (h : IM M R W P Hs B K) (hR : zMR M1 R) (hC : zMC M1) (f : zsc M M1 S) : IM M1 R W P Hs B K := by
  obtain ⟨h1, h2, h3, h4, h5, h6, h7, h8⟩ := h
  exact ⟨hR, hC, h3.cg (by rw [f.1]) (by rw [f.1]), h4.cg (by rw [f.1]), h5.cg (by rw [f.1]) (by rw [f.1]) (by rw [f.1]) (by rw [f.2.1]), h6.cg (by rw [f.1]) (by rw [f.2.1]), h7.cg (f.2.2.1 _ (by omega)) (by rw [f.1]) (by rw [f.1]) (by rw [f.1]) (by rw [f.2.1]), h8.cg (f.2.2.1 _ (by omega)) (by rw [f.1]) (by rw [f.1]) (by rw [f.2.1])⟩
theorem imF {M M1 : qv_Mem} {R : Nat → zq_T} {W : Nat → List Nat} {P : Nat → Nat} {Hs : List (Nat × List Nat)} {B : List Nat} {K : Option zBT} (h : IM M R W P Hs B K) (f : ynf M M1) : IM M1 R W P Hs B K := by
  obtain ⟨h1, h2, h3, h4, h5, h6, h7, h8⟩ := h
  exact ⟨f.mr h1, f.mc h2, f.w h3, f.p h4, f.h h5, h6.cg (f.1 _ (by omega)) (f.2.2.2 _ _ (by omega)), h7.cg (f.2.1 _ (by omega)) (f.1 _ (by omega)) (f.1 _ (by omega)) (f.1 _ (by omega)) (f.2.2.2 _ _ (by omega)), f.cl h8⟩
theorem ynf.hi {M M1 : qv_Mem} (f : ynf M M1) : hiF M M1 := ⟨fun a ha => f.1 a (by omega), fun a ha => f.2.1 a (by omega), fun a ha => by funext k; exact f.2.2.2 a k (by omega)⟩
abbrev sOut (f g : qv_Mem → Option (Int32 × qv_Mem)) (M : qv_Mem) : Prop := ∃ v M1 M2, f M = some (v, M1) ∧ g M1 = some (v, M2) ∧ Inv M2
theorem s_one {M : qv_Mem} (h : Inv M) (p : Int32) : sOut (f_X9_one qv_TT 0 p) (f_X10_one qv_TT 106 p) M := by
  obtain ⟨R, W, P, Hs, B, K, hC, hM, hK⟩ := h
  obtain ⟨M1, e1, r1, f1⟩ := x_one hC.1 p
  have c1 := icR hC r1 f1
  have m1 := hM.hi f1 (fun a ha => by unfold zSR; omega)
  obtain ⟨M2, e2, r2, k2, f2⟩ := y_one m1.1 m1.2.1 hK.1 p
  exact ⟨_, M1, M2, e1, e2, _, W, P, Hs, B, K, c1.lo (zSM.hi f2), imR m1 r2 k2 f2, a_one_k hK.1 p, hK.2⟩
theorem s_gate {M : qv_Mem} (h : Inv M) (p q : Int32) : sOut (f_X9_gate qv_TT 0 p q) (f_X10_gate qv_TT 106 p q) M := by
  obtain ⟨R, W, P, Hs, B, K, hC, hM, hK⟩ := h
  obtain ⟨M1, e1, r1, f1⟩ := x_gate hC.1 hK.1 p q
  have c1 := icR hC r1 f1
  have m1 := hM.hi f1 (fun a ha => by unfold zSR; omega)
  obtain ⟨M2, e2, r2, k2, f2⟩ := y_gate m1.1 m1.2.1 hK.1 p q
  exact ⟨_, M1, M2, e1, e2, _, W, P, Hs, B, K, c1.lo (zSM.hi f2), imR m1 r2 k2 f2, a_gate_k hK.1 p q, hK.2⟩
theorem s_ahead {M : qv_Mem} (h : Inv M) (p q : Int32) : sOut (f_X9_ahead qv_TT 0 p q) (f_X10_ahead qv_TT 106 p q) M := by
  obtain ⟨R, W, P, Hs, B, K, hC, hM, hK⟩ := h
  obtain ⟨M1, e1, r1, f1⟩ := x_ahead hC.1 hK.1 p q
  have c1 := icR hC r1 f1
  have m1 := hM.hi f1 (fun a ha => by unfold zSR; omega)
  obtain ⟨M2, e2, r2, k2, f2⟩ := y_ahead m1.1 m1.2.1 hK.1 p q
  exact ⟨_, M1, M2, e1, e2, _, W, P, Hs, B, K, c1.lo (zSM.hi f2), imR m1 r2 k2 f2, a_ahead_k hK.1 p q, hK.2⟩
theorem s_times {M : qv_Mem} (h : Inv M) (p q s : Int32) : sOut (f_X9_times qv_TT 0 p q s) (f_X10_times qv_TT 106 p q s) M := by
  obtain ⟨R, W, P, Hs, B, K, hC, hM, hK⟩ := h
  obtain ⟨M1, e1, r1, f1⟩ := x_times hC.1 hK.1 p q s
  have c1 := icR hC r1 f1
  have m1 := hM.hi f1 (fun a ha => by unfold zSR; omega)
  obtain ⟨M2, e2, r2, k2, f2⟩ := y_times m1.1 m1.2.1 hK.1 p q s
  exact ⟨_, M1, M2, e1, e2, _, W, P, Hs, B, K, c1.lo (zSM.hi f2), imR m1 r2 k2 f2, a_times_k hK.1 p q s, hK.2⟩
theorem s_turn {M : qv_Mem} (h : Inv M) (p : Int32) : sOut (f_X9_turn qv_TT 0 p) (f_X10_turn qv_TT 106 p) M := by
  obtain ⟨R, W, P, Hs, B, K, hC, hM, hK⟩ := h
  obtain ⟨M1, e1, r1, f1⟩ := x_turn hC.1 hK.1 p
  have c1 := icR hC r1 f1
  have m1 := hM.hi f1 (fun a ha => by unfold zSR; omega)
  obtain ⟨M2, e2, r2, k2, f2⟩ := y_turn m1.1 m1.2.1 hK.1 p
  exact ⟨_, M1, M2, e1, e2, _, W, P, Hs, B, K, c1.lo (zSM.hi f2), imR m1 r2 k2 f2, a_turn_k hK.1 p, hK.2⟩
theorem s_phase {M : qv_Mem} (h : Inv M) (p q : Int32) : sOut (f_X9_phase qv_TT 0 p q) (f_X10_phase qv_TT 106 p q) M := by
  obtain ⟨R, W, P, Hs, B, K, hC, hM, hK⟩ := h
  obtain ⟨M1, e1, r1, f1⟩ := x_phase hC.1 hK.1 p q
  have c1 := icR hC r1 f1
  have m1 := hM.hi f1 (fun a ha => by unfold zSR; omega)
  obtain ⟨M2, e2, r2, k2, f2⟩ := y_phase m1.1 m1.2.1 hK.1 p q
  exact ⟨_, M1, M2, e1, e2, _, W, P, Hs, B, K, c1.lo (zSM.hi f2), imR m1 r2 k2 f2, hK.1, hK.2⟩
theorem s_value {M : qv_Mem} (h : Inv M) (p q : Int32) : sOut (f_X9_value qv_TT 0 p q) (f_X10_value qv_TT 106 p q) M := by
  obtain ⟨R, W, P, Hs, B, K, hC, hM, hK⟩ := h
  obtain ⟨M1, e1, r1, f1⟩ := x_value hC.1 hC.2.1 hK.2.1 p q
  have c1 := icR hC r1 f1
  have m1 := hM.hi f1 (fun a ha => by unfold zSR; omega)
  obtain ⟨M2, e2, r2, k2, f2⟩ := y_value m1.1 m1.2.1 m1.2.2.1 hK.2.1 p q
  exact ⟨_, M1, M2, e1, e2, _, W, P, Hs, B, K, c1.lo (zSM.hi f2), imR m1 r2 k2 f2, a_value_k hK.1 hK.2.1 p q, hK.2⟩
theorem s_parts {M : qv_Mem} (h : Inv M) (p q : Int32) : sOut (f_X9_parts qv_TT 0 p q) (f_X10_parts qv_TT 106 p q) M := by
  obtain ⟨R, W, P, Hs, B, K, hC, hM, hK⟩ := h
  obtain ⟨M1, e1, f1⟩ := x_parts hC.2.1 hK.2.1 p q
  have c1 := icN hC f1 (fun a ha => by unfold zSB; omega)
  have m1 := hM.hi f1 (fun a ha => by unfold zSB; omega)
  obtain ⟨M2, e2, k2, r2, f2⟩ := y_parts m1.2.2.1 hK.2.1 m1.2.1 m1.1 p q
  exact ⟨_, M1, M2, e1, e2, R, W, P, Hs, B, K, c1.lo (zSM.hi f2), imR m1 r2 k2 f2, hK⟩
theorem s_fits {M : qv_Mem} (h : Inv M) (p q s : Int32) : sOut (f_X9_fits qv_TT 0 p q s) (f_X10_fits qv_TT 106 p q s) M := by
  obtain ⟨R, W, P, Hs, B, K, hC, hM, hK⟩ := h
  obtain ⟨M1, e1, f1⟩ := x_fits hC.1 hK.1 hC.2.1 hK.2.1 p q s
  have c1 := icN hC f1 (fun a ha => by unfold zSB; omega)
  have m1 := hM.hi f1 (fun a ha => by unfold zSB; omega)
  obtain ⟨M2, e2, r2, k2, f2⟩ := y_fits m1.1 m1.2.1 hK.1 m1.2.2.1 hK.2.1 p q s
  exact ⟨_, M1, M2, e1, e2, R, W, P, Hs, B, K, c1.lo (zSM.hi f2), imR m1 r2 k2 f2, hK⟩
theorem s_channel {M : qv_Mem} (h : Inv M) (p q s w : Int32) : ∃ v M1 M2, f_X9_channel qv_TT 0 p q s w M = some (v, M1) ∧ f_X10_channel qv_TT 106 p q s w M1 = some (v, M2) ∧ Inv M2 := by
  obtain ⟨R, W, P, Hs, B, K, hC, hM, hK⟩ := h
  obtain ⟨M1, e1, f1⟩ := x_channel hC.1 hK.1 p q s w
  have c1 := icN hC f1 (fun a ha => by omega)
  have m1 := hM.hi f1 (fun a ha => by omega)
  obtain ⟨M2, e2, r2, k2, f2⟩ := y_channel m1.1 m1.2.1 hK.1 p q s w
  exact ⟨_, M1, M2, e1, e2, R, W, P, Hs, B, K, c1.lo f2.hi, imC m1 r2 k2 f2, hK⟩
theorem s_count {M : qv_Mem} (h : Inv M) (p : Int32) : sOut (f_X9_count qv_TT 0 p) (f_X10_count qv_TT 106 p) M := by
  obtain ⟨R, W, P, Hs, B, K, hC, hM, hK⟩ := h
  obtain ⟨M1, e1, f1⟩ := x_count hC.1 hK.1 p
  have c1 := icN hC f1 (fun a ha => by omega)
  have m1 := hM.hi f1 (fun a ha => by omega)
  obtain ⟨M2, e2, r2, k2, f2⟩ := y_count m1.1 m1.2.1 hK.1 p
  exact ⟨_, M1, M2, e1, e2, R, W, P, Hs, B, K, c1.lo f2.hi, imC m1 r2 k2 f2, hK⟩
theorem s_part {M : qv_Mem} (h : Inv M) (p q s w : Int32) : ∃ v, f_X9_part qv_TT 0 p q s w M = some v ∧ f_X10_part qv_TT 106 p q s w M = some v := by
  obtain ⟨R, W, P, Hs, B, K, hC, hM, hK⟩ := h
  exact ⟨_, x_part hC.1 p q s w, y_part hM.1 p q s w⟩
theorem s_e {M : qv_Mem} (h : Inv M) (p : Int32) : ∃ v, f_X9_e qv_TT 0 p M = some v ∧ f_X10_e qv_TT 106 p M = some v := by
  obtain ⟨R, W, P, Hs, B, K, hC, hM, hK⟩ := h
  exact ⟨_, x_e hC.1 p, y_e hM.1 hK.1 p⟩
theorem s_word {M : qv_Mem} (h : Inv M) (p q : Int32) : ∃ v, f_X9_word qv_TT 0 p q M = some v ∧ f_X10_word qv_TT 106 p q M = some v := by
  obtain ⟨R, W, P, Hs, B, K, hC, hM, hK⟩ := h
  exact ⟨_, x_word hC.2.1 hK.2.1 hC.2.2.1 p q, y_word hM.2.2.1 hK.2.1 hM.2.2.2.1 p q⟩
theorem s_told {M : qv_Mem} (h : Inv M) (p : Int32) : ∃ v, f_X9_told qv_TT 0 p M = some v ∧ f_X10_told qv_TT 106 p M = some v := by
  obtain ⟨R, W, P, Hs, B, K, hC, hM, hK⟩ := h
  exact ⟨_, x_told hC.2.1 hC.2.2.1 hC.2.2.2.1 hC.2.2.2.2.1 p, y_told hM.2.2.1 hM.2.2.2.1 hM.2.2.2.2.1 hM.2.2.2.2.2.1 p⟩
theorem icP {M M1 : qv_Mem} {R : Nat → zq_T} {W : Nat → List Nat} {P : Nat → Nat} {Hs : List (Nat × List Nat)} {B : List Nat} {K : Option zBT} (h : IC M R W P Hs B K) (hL : zCl M1) (f : zpf M M1) : IC M1 R W P Hs B K := by
  obtain ⟨h1, h2, h3, h4, h5, h6, h7, h8⟩ := h
  exact ⟨h1.fr f.1 (fun a _ _ => by omega), h2.fr f.1 (fun a _ _ => by omega), h3.fr f.1 (by omega), h4.fr f.1 (fun a _ _ => by omega), h5.fr f.1 (by omega) (by omega), h6.fr f.1 (by omega) (fun a _ _ => by omega), hL, h8.cg f.2 (f.1.1 69 (by omega)) (f.1.1 70 (by omega))⟩
theorem s_clifford {M : qv_Mem} (h : Inv M) (p : Int32) : ∃ v M1, f_X9_clifford qv_TT 0 p M = some (v, M1) ∧ f_X10_clifford qv_TT 106 p M1 = some v ∧ Inv M1 := by
  obtain ⟨R, W, P, Hs, B, K, hC, hM, hK⟩ := h
  obtain ⟨M1, e1, l1, f1⟩ := x_clifford hC.1 hK.1 hC.2.2.2.2.2.2.1 p
  have c1 := icP hC l1 f1
  have m1 := hM.hi f1.1 (fun a ha => by omega)
  exact ⟨_, M1, e1, y_clifford m1.1 hK.1 m1.2.2.2.2.2.2.2 p, R, W, P, Hs, B, K, c1, m1, hK⟩
theorem s_leads {M : qv_Mem} (h : Inv M) (p q : Int32) : ∃ v M1, f_X9_leads qv_TT 0 p q M = some (v, M1) ∧ f_X10_leads qv_TT 106 p q M1 = some v ∧ Inv M1 := by
  obtain ⟨R, W, P, Hs, B, K, hC, hM, hK⟩ := h
  obtain ⟨M1, e1, l1, f1⟩ := x_leads hC.2.2.2.2.2.2.1 p q
  have c1 := icP hC l1 f1
  have m1 := hM.hi f1.1 (fun a ha => by omega)
  exact ⟨_, M1, e1, y_leads m1.2.2.2.2.2.2.2 p q, R, W, P, Hs, B, K, c1, m1, hK⟩
theorem s_take {M : qv_Mem} (h : Inv M) (p q : Int32) : sOut (f_X9_take qv_TT 0 p q) (f_X10_take qv_TT 106 p q) M := by
  obtain ⟨R, W, P, Hs, B, K, hC, hM, hK⟩ := h
  obtain ⟨h1, h2, h3, h4, h5, h6, h7, h8⟩ := hC
  obtain ⟨M1, e1, r1, l1, f1, s1, s2, s3⟩ := x_take h1 h7 p q
  have n : ∀ a, (a < 5 ∨ (12 < a ∧ a < 63)) → ¬ zSC a := fun a ha q => by unfold zSC zSR at q; omega
  have c1 : IC M1 (a_take R p q).2 W P Hs B K := ⟨r1, h2.fr f1 (fun a _ _ => n a (by omega)), h3.fr f1 (n _ (by omega)), h4.fr f1 (fun a _ _ => n a (by omega)), h5.fr f1 (n _ (by omega)) (n _ (by omega)), h6.fr f1 (n _ (by omega)) (fun a _ _ => n a (by omega)), l1, h8.cg s1 s2 s3⟩
  have m1 := hM.hi f1 (fun a ha => by unfold zSC zSR; omega)
  obtain ⟨M2, e2, r2, k2, f2⟩ := y_take m1.1 m1.2.1 m1.2.2.2.2.2.2.2 p q
  exact ⟨_, M1, M2, e1, e2, _, W, P, Hs, B, K, c1.lo (zSM.hi f2), imR m1 r2 k2 f2, a_take_k hK.1 p q, hK.2⟩
theorem s_price {M : qv_Mem} (h : Inv M) (p q : Int32) : sOut (f_X9_price qv_TT 0 p q) (f_X10_price qv_TT 106 p q) M := by
  obtain ⟨R, W, P, Hs, B, K, hC, hM, hK⟩ := h
  obtain ⟨h1, h2, h3, h4, h5, h6, h7, h8⟩ := hC
  obtain ⟨M1, e1, r1, f1⟩ := x_price h3 p q
  have c1 : IC M1 R W (a_price P p q).2 Hs B K := ⟨h1.fr f1 (fun a _ _ => by omega), h2.fr f1 (fun a _ _ => by omega), r1, h4.fr f1 (fun a _ _ => by omega), h5.fr f1 (by omega) (by omega), h6.fr f1 (by omega) (fun a _ _ => by omega), h7.fr f1 (fun a _ _ => by omega), h8.fr f1 (by omega) (by omega) (by omega)⟩
  have m1 := hM.hi f1 (fun a ha => by omega)
  obtain ⟨g1, g2, g3, g4, g5, g6, g7, g8⟩ := m1
  obtain ⟨M2, e2, r2, f2⟩ := y_price g4 p q
  have s := f2.2.2 106 (by omega)
  have m2 : IM M2 R W (a_price P p q).2 Hs B K := ⟨g1.cg (f2.2.1 _ (by omega)), g2.cg (f2.2.1 _ (by omega)), g3.cg (f2.1 _ (by omega)) (f2.1 _ (by omega)), r2, g5.cg (f2.1 _ (by omega)) (f2.1 _ (by omega)) (f2.1 _ (by omega)) (by rw [s]), g6.cg (f2.1 _ (by omega)) (by rw [s]), g7.cg (f2.2.1 _ (by omega)) (f2.1 _ (by omega)) (f2.1 _ (by omega)) (f2.1 _ (by omega)) (by rw [s]), g8.cg (f2.2.1 _ (by omega)) (f2.1 _ (by omega)) (f2.1 _ (by omega)) (by rw [s])⟩
  exact ⟨_, M1, M2, e1, e2, R, W, _, Hs, B, K, c1.lo (f2.mono (fun a ha => by omega)), m2, hK.1, hK.2.1, a_price_k hK.2.2.1 p q, hK.2.2.2⟩
theorem s_cheapest {M : qv_Mem} (h : Inv M) (p q : Int32) : sOut (f_X9_cheapest qv_TT 0 p q) (f_X10_cheapest qv_TT 106 p q) M := by
  obtain ⟨R, W, P, Hs, B, K, hC, hM, hK⟩ := h
  obtain ⟨h1, h2, h3, h4, h5, h6, h7, h8⟩ := hC
  obtain ⟨M1, e1, l1, l2, f1⟩ := x_cheapest hK.2.2.1 h3 h7 h8 p q
  have n : ∀ a, a < 63 → ¬ zSc a := fun a ha q => by unfold zSc at q; omega
  have c1 : IC M1 R W P Hs B K := ⟨h1.fr f1 (fun a _ _ => n a (by omega)), h2.fr f1 (fun a _ _ => n a (by omega)), h3.fr f1 (n _ (by omega)), h4.fr f1 (fun a _ _ => n a (by omega)), h5.fr f1 (n _ (by omega)) (n _ (by omega)), h6.fr f1 (n _ (by omega)) (fun a _ _ => n a (by omega)), l1, l2⟩
  have m1 := hM.hi f1 (fun a ha => by unfold zSc; omega)
  obtain ⟨M2, e2, f2⟩ := y_cheapest hK.2.2.1 m1.2.2.2.1 m1.2.2.2.2.2.2.2 p q
  exact ⟨_, M1, M2, e1, e2, R, W, P, Hs, B, K, c1.lo f2.nf.hi, imF m1 f2.nf, hK⟩
theorem s_push {M : qv_Mem} (h : Inv M) (p q : Int32) : sOut (f_X9_push qv_TT 0 p q) (f_X10_push qv_TT 106 p q) M := by
  obtain ⟨R, W, P, Hs, B, K, hC, hM, hK⟩ := h
  obtain ⟨M1, e1, r1, r2, f1⟩ := x_push hC.2.1 hK.2.1 hC.2.2.2.1 p q
  have c1 := icW hC r1 r2 f1
  have m1 := hM.hi f1 (fun a ha => by unfold zSW; omega)
  obtain ⟨M2, e2, t1, t2, f2⟩ := y_push m1.2.2.1 hK.2.1 m1.2.2.2.2.1 hK.2.2.2.1 p q
  have k := a_push_k hK.2.1 hK.2.2.2.1 p q
  exact ⟨_, M1, M2, e1, e2, R, _, P, _, B, K, c1.lo f2.hi, imW m1 t1 t2 f2, hK.1, k.1, hK.2.2.1, k.2, hK.2.2.2.2⟩
theorem s_pull {M : qv_Mem} (h : Inv M) (p : Int32) : sOut (f_X9_pull qv_TT 0 p) (f_X10_pull qv_TT 106 p) M := by
  obtain ⟨R, W, P, Hs, B, K, hC, hM, hK⟩ := h
  obtain ⟨M1, e1, r1, r2, f1⟩ := x_pull hC.2.1 hK.2.1 hC.2.2.2.1 p
  have c1 := icW hC r1 r2 f1
  have m1 := hM.hi f1 (fun a ha => by unfold zSW; omega)
  obtain ⟨M2, e2, t1, t2, f2⟩ := y_pull m1.2.2.1 hK.2.1 m1.2.2.2.2.1 hK.2.2.2.1 p
  have k := a_pull_k hK.2.1 hK.2.2.2.1 p
  exact ⟨_, M1, M2, e1, e2, R, _, P, _, B, K, c1.lo f2.hi, imW m1 t1 t2 f2, hK.1, k.1, hK.2.2.1, k.2, hK.2.2.2.2⟩
theorem s_shorter {M : qv_Mem} (h : Inv M) (p : Int32) : sOut (f_X9_shorter qv_TT 0 p) (f_X10_shorter qv_TT 106 p) M := by
  obtain ⟨R, W, P, Hs, B, K, hC, hM, hK⟩ := h
  obtain ⟨M1, e1, r1, r2, f1⟩ := x_shorter hC.2.1 hK.2.1 hC.2.2.2.1 p
  have c1 := icW hC r1 r2 f1
  have m1 := hM.hi f1 (fun a ha => by unfold zSW; omega)
  obtain ⟨M2, e2, t1, t2, f2⟩ := y_shorter m1.2.2.1 hK.2.1 m1.2.2.2.2.1 hK.2.2.2.1 p
  have k := a_shorter_k hK.2.1 hK.2.2.2.1 p
  exact ⟨_, M1, M2, e1, e2, R, _, P, _, B, K, c1.lo f2.hi, imW m1 t1 t2 f2, hK.1, k.1, hK.2.2.1, k.2, hK.2.2.2.2⟩
theorem s_undo {M : qv_Mem} (h : Inv M) : sOut (f_X9_undo qv_TT 0) (f_X10_undo qv_TT 106) M := by
  obtain ⟨R, W, P, Hs, B, K, hC, hM, hK⟩ := h
  obtain ⟨M1, e1, r1, r2, f1⟩ := x_undo hC.2.1 hC.2.2.2.1 hK.2.2.2.1
  have c1 := icW hC r1 r2 f1
  have m1 := hM.hi f1 (fun a ha => by unfold zSW; omega)
  obtain ⟨M2, e2, t1, t2, f2⟩ := y_undo m1.2.2.1 m1.2.2.2.2.1 hK.2.2.2.1
  have k := a_undo_k hK.2.1 hK.2.2.2.1
  exact ⟨_, M1, M2, e1, e2, R, _, P, _, B, K, c1.lo f2.hi, imW m1 t1 t2 f2, hK.1, k.1, hK.2.2.1, k.2, hK.2.2.2.2⟩
theorem s_normal {M : qv_Mem} (h : Inv M) (p q : Int32) : sOut (f_X9_normal qv_TT 0 p q) (f_X10_normal qv_TT 106 p q) M := by
  obtain ⟨R, W, P, Hs, B, K, hC, hM, hK⟩ := h
  obtain ⟨h1, h2, h3, h4, h5, h6, h7, h8⟩ := hC
  obtain ⟨M1, e1, r1, r2, l1, l2, f1⟩ := x_normal h1 hK.1 h2 hK.2.1 h4 hK.2.2.1 h3 h7 h8 p q
  have n : ∀ a, (a < 13 ∨ (18 < a ∧ a < 37) ∨ (55 < a ∧ a < 63)) → ¬ zSL a := fun a ha q => by unfold zSL zSc zSO zSW at q; omega
  have c1 : IC M1 R (a_normal R W P Hs p q).2.1 P (a_normal R W P Hs p q).2.2 B K := ⟨h1.fr f1 (fun a _ _ => n a (by omega)), r1, h3.fr f1 (n _ (by omega)), r2, h5.fr f1 (n _ (by omega)) (n _ (by omega)), h6.fr f1 (n _ (by omega)) (fun a _ _ => n a (by omega)), l1, l2⟩
  have m1 := hM.hi f1 (fun a ha => by unfold zSL zSc zSO zSW; omega)
  obtain ⟨M2, e2, t1, t2, N, f2, f3⟩ := y_normal m1.1 m1.2.1 hK.1 m1.2.2.1 hK.2.1 m1.2.2.2.2.1 hK.2.2.2.1 hK.2.2.1 m1.2.2.2.1 m1.2.2.2.2.2.2.2 p q
  have k := a_normal_k (P := P) hK.1 hK.2.1 hK.2.2.2.1 p q
  exact ⟨_, M1, M2, e1, e2, R, _, P, _, B, K, c1.lo (f2.hi.tr f3.hi), imW (imF m1 f2) t1 t2 f3, hK.1, k.1, hK.2.2.1, k.2, hK.2.2.2.2⟩
theorem a_feed_k {B : List Nat} (h : zBk B) (p : Int32) : zBk (a_feed B p).2 := by
  have h80 := h.1
  unfold a_feed
  by_cases c : p.toInt < 32 ∨ 126 < p.toInt
  · rw [if_pos c]; exact h
  · rw [if_neg c]
    by_cases d : B.length = 80
    · rw [if_pos d]; exact h
    · rw [if_neg d]
      obtain ⟨v, hv, v2, rfl⟩ | hz := zr_in p 127
      · rw [nI_toInt v2] at c
        rw [zi_cl v2]
        refine ⟨by show (B ++ [v]).length ≤ 80; rw [List.length_append, List.length_singleton]; omega, fun b hb => ?_⟩
        rcases List.mem_append.mp hb with q | q
        · exact h.2 b q
        · rw [List.mem_singleton.mp q]; omega
      · exfalso
        rcases hz with hz | hz <;> omega
theorem icT {M M1 : qv_Mem} {R : Nat → zq_T} {W : Nat → List Nat} {P : Nat → Nat} {Hs : List (Nat × List Nat)} {B B2 : List Nat} {K : Option zBT} (h : IC M R W P Hs B K) (hT : zTp M1 B2) (f : zfr (fun a => a = 56 ∨ a = 57) M M1) : IC M1 R W P Hs B2 K := by
  obtain ⟨h1, h2, h3, h4, h5, h6, h7, h8⟩ := h
  exact ⟨h1.fr f (fun a _ _ => by omega), h2.fr f (fun a _ _ => by omega), h3.fr f (by omega), h4.fr f (fun a _ _ => by omega), hT, h6.fr f (by omega) (fun a _ _ => by omega), h7.fr f (fun a _ _ => by omega), h8.fr f (by omega) (by omega) (by omega)⟩
theorem imT {M M1 : qv_Mem} {R : Nat → zq_T} {W : Nat → List Nat} {P : Nat → Nat} {Hs : List (Nat × List Nat)} {B B2 : List Nat} {K : Option zBT} (h : IM M R W P Hs B K) (hT : yTp M1 B2) (f : ytr M M1) : IM M1 R W P Hs B2 K := by
  obtain ⟨h1, h2, h3, h4, h5, h6, h7, h8⟩ := h
  exact ⟨h1.cg (by rw [f.1]), h2.cg (by rw [f.1]), h3.cg (f.2.1 _ (by omega)) (f.2.1 _ (by omega)), h4.cg (f.2.1 _ (by omega)), h5.cg (f.2.1 _ (by omega)) (f.2.1 _ (by omega)) (f.2.1 _ (by omega)) (f.2.2 _ _ (by omega)), hT, h7.cg (by rw [f.1]) (f.2.1 _ (by omega)) (f.2.1 _ (by omega)) (f.2.1 _ (by omega)) (f.2.2 _ _ (by omega)), h8.cg (by rw [f.1]) (f.2.1 _ (by omega)) (f.2.1 _ (by omega)) (f.2.2 _ _ (by omega))⟩
theorem ytr.hi {M M1 : qv_Mem} (f : ytr M M1) : hiF M M1 := ⟨fun a ha => f.2.1 a (by omega), fun a _ => by rw [f.1], fun a ha => by funext k; exact f.2.2 a k (by omega)⟩
theorem s_feed {M : qv_Mem} (h : Inv M) (p : Int32) : sOut (f_X9_feed qv_TT 0 p) (f_X10_feed qv_TT 106 p) M := by
  obtain ⟨R, W, P, Hs, B, K, hC, hM, hK⟩ := h
  obtain ⟨M1, e1, r1, f1⟩ := x_feed hC.2.2.2.2.1 p
  have m1 := hM.hi f1 (fun a ha => by omega)
  obtain ⟨M2, e2, r2, f2⟩ := y_feed m1.2.2.2.2.2.1 p
  exact ⟨_, M1, M2, e1, e2, R, W, P, Hs, _, K, (icT hC r1 f1).lo f2.hi, imT m1 r2 f2, hK.1, hK.2.1, hK.2.2.1, hK.2.2.2.1, a_feed_k hK.2.2.2.2.1 p, hK.2.2.2.2.2⟩
theorem s_wipe {M : qv_Mem} (h : Inv M) : sOut (f_X9_wipe qv_TT 0) (f_X10_wipe qv_TT 106) M := by
  obtain ⟨R, W, P, Hs, B, K, hC, hM, hK⟩ := h
  obtain ⟨M1, e1, r1, f1⟩ := x_wipe hC.2.2.2.2.1
  have m1 := hM.hi f1 (fun a ha => by omega)
  obtain ⟨M2, e2, r2, g1, g2, g3⟩ := y_wipe m1.2.2.2.2.2.1
  have f2 : ytr M1 M2 := ⟨g2, fun a _ => by rw [g1], g3⟩
  exact ⟨_, M1, M2, e1, e2, R, W, P, Hs, [], K, (icT hC r1 f1).lo f2.hi, imT m1 r2 f2, hK.1, hK.2.1, hK.2.2.1, hK.2.2.2.1, ⟨Nat.zero_le _, fun b hb => (by cases hb)⟩, hK.2.2.2.2.2⟩
theorem s_write {M : qv_Mem} (h : Inv M) (p : Int32) : sOut (f_X9_write qv_TT 0 p) (f_X10_write qv_TT 106 p) M := by
  obtain ⟨R, W, P, Hs, B, K, hC, hM, hK⟩ := h
  obtain ⟨h1, h2, h3, h4, h5, h6, h7, h8⟩ := hC
  obtain ⟨M1, e1, r1, r2, r3, f1⟩ := x_write h2 hK.2.1 h4 hK.2.2.2.2.1 h5 p
  have n : ∀ a, (a < 13 ∨ (18 < a ∧ a < 37) ∨ (62 < a ∧ a < 96) ∨ 97 < a) → ¬ zSX a := fun a ha q => by unfold zSX zSW at q; omega
  have c1 : IC M1 R (a_write W Hs B p).2.1 P (a_write W Hs B p).2.2 (a_writeB B p) K := ⟨h1.fr f1 (fun a _ _ => n a (by omega)), r1, h3.fr f1 (n _ (by omega)), r2, r3, h6.fr f1 (n _ (by omega)) (fun a _ _ => n a (by omega)), h7.fr f1 (fun a _ _ => n a (by omega)), h8.fr f1 (n _ (by omega)) (n _ (by omega)) (n _ (by omega))⟩
  have m1 := hM.hi f1 (fun a ha => n a (by omega))
  obtain ⟨g1, g2, g3, g4, g5, g6, g7, g8⟩ := m1
  obtain ⟨M2, e2, t1, t2, t3, N, ⟨n1, n2, n3⟩, f3⟩ := y_write g3 hK.2.1 g5 hK.2.2.2.1 hK.2.2.2.2.1 g6 p
  have hi1 : hiF M1 N := ⟨fun a ha => n2 a (by omega) (by omega), fun a _ => by rw [n1], fun a ha => by funext k; exact n3 a k (by omega)⟩
  have m2 : IM M2 R (a_write W Hs B p).2.1 P (a_write W Hs B p).2.2 (a_writeB B p) K := ⟨g1.cg (by rw [f3.1, n1]), g2.cg (by rw [f3.1, n1]), t1, g4.cg (by rw [f3.2.1 _ (by omega), n2 _ (by omega) (by omega)]), t2, t3, g7.cg (by rw [f3.1, n1]) (by rw [f3.2.1 _ (by omega), n2 _ (by omega) (by omega)]) (by rw [f3.2.1 _ (by omega), n2 _ (by omega) (by omega)]) (by rw [f3.2.1 _ (by omega), n2 _ (by omega) (by omega)]) (by rw [f3.2.2 _ _ (by omega), n3 _ _ (by omega)]), g8.cg (by rw [f3.1, n1]) (by rw [f3.2.1 _ (by omega), n2 _ (by omega) (by omega)]) (by rw [f3.2.1 _ (by omega), n2 _ (by omega) (by omega)]) (by rw [f3.2.2 _ _ (by omega), n3 _ _ (by omega)])⟩
  have k := a_write_k hK.2.1 hK.2.2.2.1 hK.2.2.2.2.1 p
  refine ⟨_, M1, M2, e1, e2, R, _, P, _, _, K, c1.lo (hi1.tr f3.hi), m2, hK.1, k.1, hK.2.2.1, k.2, ?_, hK.2.2.2.2.2⟩
  unfold a_writeB
  split
  · exact hK.2.2.2.2.1
  · exact ⟨Nat.zero_le _, fun b hb => (by cases hb)⟩
theorem s_image {M : qv_Mem} (h : Inv M) : sOut (f_X9_image qv_TT 0) (f_X10_image qv_TT 106) M := by
  obtain ⟨R, W, P, Hs, B, K, hC, hM, hK⟩ := h
  obtain ⟨h1, h2, h3, h4, h5, h6, h7, h8⟩ := hC
  obtain ⟨M1, e1, r1, f1⟩ := x_image h1 h2 h3
  have c1 : IC M1 R W P Hs B (some (R, W, P)) := ⟨h1.fr f1 (fun a _ _ => by omega), h2.fr f1 (fun a _ _ => by omega), h3.fr f1 (by omega), h4.fr f1 (fun a _ _ => by omega), h5.fr f1 (by omega) (by omega), r1, h7.fr f1 (fun a _ _ => by omega), h8.fr f1 (by omega) (by omega) (by omega)⟩
  have m1 := hM.hi f1 (fun a ha => by omega)
  obtain ⟨g1, g2, g3, g4, g5, g6, g7, g8⟩ := m1
  obtain ⟨M2, e2, r2, f2⟩ := y_image g1 g3 g4
  have m2 : IM M2 R W P Hs B (some (R, W, P)) := ⟨g1.cg (f2.1 _ (by omega)), g2.cg (f2.1 _ (by omega)), g3.cg (f2.2.1 _ (by omega)) (f2.2.1 _ (by omega)), g4.cg (f2.2.1 _ (by omega)), g5.cg (f2.2.1 _ (by omega)) (f2.2.1 _ (by omega)) (f2.2.1 _ (by omega)) (f2.2.2 _ _ (by omega)), g6.cg (f2.2.1 _ (by omega)) (f2.2.2 _ _ (by omega)), r2, g8.cg (f2.1 _ (by omega)) (f2.2.1 _ (by omega)) (f2.2.1 _ (by omega)) (f2.2.2 _ _ (by omega))⟩
  have hi1 : hiF M1 M2 := ⟨fun a ha => f2.2.1 a (by omega), fun a ha => f2.1 a (by omega), fun a ha => by funext k; exact f2.2.2 a k (by omega)⟩
  exact ⟨_, M1, M2, e1, e2, R, W, P, Hs, B, _, c1.lo hi1, m2, hK.1, hK.2.1, hK.2.2.1, hK.2.2.2.1, hK.2.2.2.2.1, hK.1, hK.2.1, hK.2.2.1⟩
theorem s_restore {M : qv_Mem} (h : Inv M) : sOut (f_X9_restore qv_TT 0) (f_X10_restore qv_TT 106) M := by
  obtain ⟨R, W, P, Hs, B, K, hC, hM, hK⟩ := h
  obtain ⟨h1, h2, h3, h4, h5, h6, h7, h8⟩ := hC
  obtain ⟨M1, e1, r1, r2, r3, r4, r5, f1⟩ := x_restore h1 h2 h3 h4 h6
  have c1 : IC M1 (a_rest R W P K).1 (a_rest R W P K).2.1 (a_rest R W P K).2.2 (a_restH Hs K) B K := ⟨r1, r2, r3, r4, h5.fr f1 (by omega) (by omega), r5, h7.fr f1 (fun a _ _ => by omega), h8.fr f1 (by omega) (by omega) (by omega)⟩
  have m1 := hM.hi f1 (fun a ha => by omega)
  obtain ⟨g1, g2, g3, g4, g5, g6, g7, g8⟩ := m1
  obtain ⟨M2, e2, t1, t2, t3, t4, f2⟩ := y_restore g1 g3 g4 g5 g7
  have m2 : IM M2 (a_rest R W P K).1 (a_rest R W P K).2.1 (a_rest R W P K).2.2 (a_restH Hs K) B K := ⟨t1, f2.mc g2, t2, t3, t4, g6.cg (f2.2.2.1 _ (by omega)) (f2.2.2.2 _ _ (by omega)), g7.cg (f2.1 _ (by omega)) (f2.2.2.1 _ (by omega)) (f2.2.2.1 _ (by omega)) (f2.2.2.1 _ (by omega)) (f2.2.2.2 _ _ (by omega)), g8.cg (f2.1 _ (by omega)) (f2.2.2.1 _ (by omega)) (f2.2.2.1 _ (by omega)) (f2.2.2.2 _ _ (by omega))⟩
  have hi1 : hiF M1 M2 := ⟨fun a ha => f2.2.2.1 a (by omega), fun a ha => f2.1 a (by omega), fun a ha => by funext k; exact f2.2.2.2 a k (by omega)⟩
  obtain ⟨k1, k2, k3, k4⟩ := a_rest_k hK.1 hK.2.1 hK.2.2.1 hK.2.2.2.1 hK.2.2.2.2.2
  exact ⟨_, M1, M2, e1, e2, _, _, _, _, B, K, c1.lo hi1, m2, k1, k2, k3, k4, hK.2.2.2.2⟩
