/-! The reference at its start; the invariant at the start; the pure statement. -/
def iniM (N M1 : qv_Mem) : Prop := zMR M1 (fun _ => zq_one) ∧ zMC M1 ∧ yCl M1 ∧ ywf (zf N 107 yF) M1
theorem k10b {N : qv_Mem} {Q : qv_Mem → Prop} (h0 : N.2.1 107 = fun _ => 0) (h14 : N.2.2 106 14 = 0) (h : ∀ M1, iniM N M1 → Q M1) : kO (qv_bo (f_X10_number qv_TT 106 14 0 0 1 N) (fun M29 =>
 qv_bo (f_X10_number qv_TT 106 14 3 0 1 M29) (fun M30 =>
 qv_bo (f_X10_gates qv_TT 106 M30) (fun M31 =>
 qv_bo (f_X10_copies qv_TT 106 14 0 M31) (fun M32 =>
 qv_bo (f_X10_copies qv_TT 106 14 1 M32) (fun M33 =>
 qv_bo (f_X10_copies qv_TT 106 14 2 M33) (fun M34 =>
 qv_bo (f_X10_copies qv_TT 106 14 3 M34) (fun M35 =>
 qv_bo (f_X10_walks qv_TT 106 M35) (fun M36 =>
 some M36))))))))) Q := by
  have e : N = zf N 107 (fun _ => 0) := by
    rw [← h0]
    exact (zf_self N 107).symm
  have hMC : zMC (zf N 107 yF) := ⟨fun g hg => yst0_S (yst0_g g hg), yst0_S yst0_11, yst0_S yst0_12, yst0_S yst0_13, yst0_S yst0_14⟩
  have hMR : zMR (zf N 107 yF) (fun _ => zq_one) := fun r hr => yst0_S (yst0_r r hr)
  obtain ⟨M36, e36, hcl, hw⟩ := y_walks hMC (by rw [zf_s]; exact h14)
  refine kbo ((congrArg (f_X10_number qv_TT 106 14 0 0 1) e).trans (yN zt_tab N (fun _ => 0) 1 14 0 0 rfl rfl rfl (by omega))) ?_
  refine kbo (yN zt_tab N _ 1 14 3 0 rfl rfl rfl (by omega)) ?_
  refine kbo (y_gates zt_tab N _) ?_
  refine kbo (yC zt_tab N _ 14 0 rfl rfl (by omega) (by omega)) ?_
  refine kbo (yC zt_tab N _ 14 1 rfl rfl (by omega) (by omega)) ?_
  refine kbo (yC zt_tab N _ 14 2 rfl rfl (by omega) (by omega)) ?_
  refine kbo (yC zt_tab N _ 14 3 rfl rfl (by omega) (by omega)) ?_
  refine kbo e36 ?_
  have sl : ∀ s A, s < 15 → zS (zf N 107 yF) 107 s A → zS M36 107 s A := fun s A hs k => ⟨fun j hj => by show M36.2.1 107 (17 * s + j) = _; rw [hw.2.2.1 s (by omega) (by omega) (by omega) j (by omega)]; exact k.1 j hj, by rw [hw.2.2.1 s (by omega) (by omega) (by omega) 16 (by omega)]; exact k.2⟩
  exact ⟨M36, rfl, h M36 ⟨fun r hr => sl _ _ (by omega) (hMR r hr), ⟨fun g hg => sl _ _ (by omega) (hMC.1 g hg), sl _ _ (by omega) hMC.2.1, sl _ _ (by omega) hMC.2.2.1, sl _ _ (by omega) hMC.2.2.2.1, sl _ _ (by omega) hMC.2.2.2.2⟩, hcl, hw⟩⟩
theorem zbo_s {oo : Option qv_Mem} {M : qv_Mem} (h : qv_bo oo (fun N => some N) = some M) : oo = some M := by
  cases oo with
  | none => cases h
  | some a => exact h
set_option maxHeartbeats 2000000 in
set_option maxRecDepth 100000 in
theorem k10 {M : qv_Mem} (hz : zZ M) : kO (g_X10 ([] ++ K_X9 0) 106 M) (fun M1 => ∃ N, zfi 106 128 M N ∧ (∀ g, g < 7 → N.1 110 g = nI 1) ∧ (∀ a, 106 ≤ a → a ≠ 110 → (∀ j, N.1 a j = 0) ∧ (∀ j, N.2.1 a j = 0) ∧ ∀ j, N.2.2 a j = 0) ∧ iniM N M1) := by
  unfold g_X10
  refine kalz hz (fun M1 z1 f1 => ?_)
  refine kalz z1 (fun M2 z2 f2 => ?_)
  refine kalz z2 (fun M3 z3 f3 => ?_)
  refine kalz z3 (fun M4 z4 f4 => ?_)
  refine kalz z4 (fun M5 z5 f5 => ?_)
  refine kalz z5 (fun M6 z6 f6 => ?_)
  refine kalz z6 (fun M7 z7 f7 => ?_)
  refine kalz z7 (fun M8 z8 f8 => ?_)
  refine kalz z8 (fun M9 z9 f9 => ?_)
  refine kalz z9 (fun M10 z10 f10 => ?_)
  refine kalz z10 (fun M11 z11 f11 => ?_)
  refine kalz z11 (fun M12 z12 f12 => ?_)
  refine kalz z12 (fun M13 z13 f13 => ?_)
  refine kalz z13 (fun M14 z14 f14 => ?_)
  refine kalz z14 (fun M15 z15 f15 => ?_)
  refine kalz z15 (fun M16 z16 f16 => ?_)
  refine kalz z16 (fun M17 z17 f17 => ?_)
  refine kalz z17 (fun M18 z18 f18 => ?_)
  refine kalz z18 (fun M19 z19 f19 => ?_)
  refine kalz z19 (fun M20 z20 f20 => ?_)
  refine kalz z20 (fun M21 z21 f21 => ?_)
  have F1 : zfi 106 128 M M1 := f1.tr (zfi.rf 107 107 M1) (by omega) (by omega) (by omega) (by omega)
  have F2 : zfi 106 128 M M2 := F1.tr f2 (by omega) (by omega) (by omega) (by omega)
  have F3 : zfi 106 128 M M3 := F2.tr f3 (by omega) (by omega) (by omega) (by omega)
  have F4 : zfi 106 128 M M4 := F3.tr f4 (by omega) (by omega) (by omega) (by omega)
  have F5 : zfi 106 128 M M5 := F4.tr f5 (by omega) (by omega) (by omega) (by omega)
  have F6 : zfi 106 128 M M6 := F5.tr f6 (by omega) (by omega) (by omega) (by omega)
  have F7 : zfi 106 128 M M7 := F6.tr f7 (by omega) (by omega) (by omega) (by omega)
  have F8 : zfi 106 128 M M8 := F7.tr f8 (by omega) (by omega) (by omega) (by omega)
  have F9 : zfi 106 128 M M9 := F8.tr f9 (by omega) (by omega) (by omega) (by omega)
  have F10 : zfi 106 128 M M10 := F9.tr f10 (by omega) (by omega) (by omega) (by omega)
  have F11 : zfi 106 128 M M11 := F10.tr f11 (by omega) (by omega) (by omega) (by omega)
  have F12 : zfi 106 128 M M12 := F11.tr f12 (by omega) (by omega) (by omega) (by omega)
  have F13 : zfi 106 128 M M13 := F12.tr f13 (by omega) (by omega) (by omega) (by omega)
  have F14 : zfi 106 128 M M14 := F13.tr f14 (by omega) (by omega) (by omega) (by omega)
  have F15 : zfi 106 128 M M15 := F14.tr f15 (by omega) (by omega) (by omega) (by omega)
  have F16 : zfi 106 128 M M16 := F15.tr f16 (by omega) (by omega) (by omega) (by omega)
  have F17 : zfi 106 128 M M17 := F16.tr f17 (by omega) (by omega) (by omega) (by omega)
  have F18 : zfi 106 128 M M18 := F17.tr f18 (by omega) (by omega) (by omega) (by omega)
  have F19 : zfi 106 128 M M19 := F18.tr f19 (by omega) (by omega) (by omega) (by omega)
  have F20 : zfi 106 128 M M20 := F19.tr f20 (by omega) (by omega) (by omega) (by omega)
  have F21 : zfi 106 128 M M21 := F20.tr f21 (by omega) (by omega) (by omega) (by omega)
  refine kpr (fun N hN fN => ?_)
  have hN2 : ∀ a, 106 ≤ a → a ≠ 110 → (∀ j, N.1 a j = 0) ∧ (∀ j, N.2.1 a j = 0) ∧ ∀ j, N.2.2 a j = 0 := by
    intro a ha h
    obtain ⟨q1, q2, q3⟩ := z21 a ha
    refine ⟨fun j => ?_, fun j => ?_, fun j => ?_⟩
    · rw [fN.1 a (by omega)]; exact q1 j
    · rw [fN.2.1 a (by omega)]; exact q2 j
    · rw [fN.2.2 a (by omega)]; exact q3 j
  have F0 := F21.tr fN (l := 106) (h := 128) (by omega) (by omega) (by omega) (by omega)
  exact k10b (by funext j; exact (hN2 107 (by omega) (by omega)).2.1 j) ((hN2 106 (by omega) (by omega)).2.2 14) (fun M1 k => ⟨N, F0, hN, hN2, k⟩)
theorem zZ0 : zZ qv_M0 := fun _ _ => ⟨fun _ => rfl, fun _ => rfl, fun _ => rfl⟩
theorem start_class : ∃ Mb, g_X9 [] 0 (qv_zr qv_M0 0) = some Mb ∧ IC Mb (fun _ => zq_one) (fun _ => []) (fun _ => 1) [] [] none ∧ zZ Mb := by
  have key : kO (qv_bo (g_X9 [] 0 (qv_zr qv_M0 0)) (fun N => some N)) (fun Mb => IC Mb (fun _ => zq_one) (fun _ => []) (fun _ => 1) [] [] none ∧ zZ Mb) := by
    refine k9 (T0 := []) (b := 0) rfl (fun M1 t0 t1 t2 t3 w0 w1 w2 pp i2 h2 h3 tp c8 c9 ff => ⟨M1, rfl, ⟨?_, ?_, ?_, ?_, ?_, ?_, ?_, ?_⟩, ?_⟩)
    · intro r hr
      have q : r = 0 ∨ r = 1 ∨ r = 2 ∨ r = 3 := by omega
      rcases q with rfl | rfl | rfl | rfl
      · exact t0
      · exact t1
      · exact t2
      · exact t3
    · intro w hw
      have q : w = 0 ∨ w = 1 ∨ w = 2 := by omega
      rcases q with rfl | rfl | rfl
      · exact ⟨w0, by decide, fun i hi => absurd hi (Nat.not_lt_zero i)⟩
      · exact ⟨w1, by decide, fun i hi => absurd hi (Nat.not_lt_zero i)⟩
      · exact ⟨w2, by decide, fun i hi => absurd hi (Nat.not_lt_zero i)⟩
    · exact pp
    · exact ⟨0, by omega, h2, h3, by decide, fun k hk => absurd hk (Nat.not_lt_zero k)⟩
    · exact ⟨tp, by decide, fun i hi => absurd hi (Nat.not_lt_zero i)⟩
    · exact i2
    · exact Or.inl c8
    · exact Or.inl c9
    · intro a ha
      obtain ⟨q1, q2, q3⟩ := (zZ0.zr 0) a ha
      refine ⟨fun j => ?_, fun j => ?_, fun j => ?_⟩
      · rw [ff.1 a (by omega)]; exact q1 j
      · rw [ff.2.1 a (by omega)]; exact q2 j
      · rw [ff.2.2 a (by omega)]; exact q3 j
  obtain ⟨Mb, e, h⟩ := key
  exact ⟨Mb, zbo_s e, h⟩
theorem zfi.hi {M M1 : qv_Mem} (f : zfi 106 128 M M1) : hiF M M1 := ⟨fun a ha => f.1 a (by omega), fun a ha => f.2.1 a (by omega), fun a ha => f.2.2 a (by omega)⟩
theorem start_inv {M M1 N : qv_Mem} (hC : IC M (fun _ => zq_one) (fun _ => []) (fun _ => 1) [] [] none) (f : zfi 106 128 M N) (hN : ∀ g, g < 7 → N.1 110 g = nI 1) (hZ : ∀ a, 106 ≤ a → a ≠ 110 → (∀ j, N.1 a j = 0) ∧ (∀ j, N.2.1 a j = 0) ∧ ∀ j, N.2.2 a j = 0) (k : iniM N M1) : Inv M1 := by
  obtain ⟨hMR, hMC, hcl, hw⟩ := k
  have i1 : ∀ a, a ≠ 118 → a ≠ 119 → M1.1 a = N.1 a := fun a h1 h2 => hw.1 a h1 h2
  have s1 : ∀ a k, ¬ (a = 106 ∧ k = 14) → M1.2.2 a k = N.2.2 a k := fun a k h => hw.2.2.2 a k h
  have h2 : hiF N M1 := by
    refine ⟨fun a ha => i1 a (by omega) (by omega), fun a ha => ?_, fun a ha => ?_⟩
    · rw [hw.2.1 a (by omega) (by omega)]
      exact zf_ne' (by omega)
    · funext k
      exact s1 a k (by omega)
  refine ⟨fun _ => zq_one, fun _ => [], fun _ => 1, [], [], none, (hC.lo f.hi).lo h2, ⟨hMR, hMC, fun w hw => ⟨?_, Nat.zero_le 60, fun i hi => absurd hi (Nat.not_lt_zero i)⟩, fun g hg => ?_, ⟨?_, by decide, fun k hk => absurd hk (Nat.not_lt_zero k)⟩, ⟨?_, by decide, fun i hi => absurd hi (Nat.not_lt_zero i)⟩, ?_, hcl⟩, ⟨fun r hr => ⟨zq_ok.one, Nat.zero_le 40⟩, fun w hw => ⟨Nat.zero_le 60, fun g hg => by cases hg⟩, fun g hg => show 1 ≤ 9 by omega, ⟨by decide, fun k hk => absurd hk (Nat.not_lt_zero k)⟩, ⟨by decide, fun b hb => by cases hb⟩, trivial⟩⟩
  · rw [i1 113 (by omega) (by omega)]
    exact (hZ 113 (by omega) (by omega)).1 w
  · rw [i1 110 (by omega) (by omega)]
    exact hN g hg
  · rw [s1 106 22 (by omega)]
    exact (hZ 106 (by omega) (by omega)).2.2 22
  · rw [s1 106 24 (by omega)]
    exact (hZ 106 (by omega) (by omega)).2.2 24
  · show M1.2.2 106 9 = 0
    rw [s1 106 9 (by omega)]
    exact (hZ 106 (by omega) (by omega)).2.2 9
theorem pure_law (xs : Nat → Int32) (L : Nat) (hL : L ≤ 2560) : f_start xs L = some () := by
  obtain ⟨Mb, e, hC, hZ⟩ := start_class
  obtain ⟨Md, e2, N, f, hN, hN2, k⟩ := k10 (hZ.zr 106)
  show qv_bo (g_X9 [] 0 (qv_zr qv_M0 0)) (fun Mb => qv_bo (g_X10 ([] ++ K_X9 0) 106 (qv_zr Mb 106)) (fun Md => f_law xs L Md)) = some ()
  rw [e, zbo, e2, zbo]
  exact law_all (start_inv hC ((zfi_zr Mb 106).tr f (by omega) (by omega) (by omega) (by omega)) hN hN2 k) hL
