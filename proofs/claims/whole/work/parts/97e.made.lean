/-! The constructors' memory: what both sides hold at the start. -/
def zfi (l h : Nat) (M M1 : qv_Mem) : Prop := (∀ a, (a < l ∨ h ≤ a) → M1.1 a = M.1 a) ∧ (∀ a, (a < l ∨ h ≤ a) → M1.2.1 a = M.2.1 a) ∧ ∀ a, (a < l ∨ h ≤ a) → M1.2.2 a = M.2.2 a
theorem zfi.rf (l h : Nat) (M : qv_Mem) : zfi l h M M := ⟨fun _ _ => rfl, fun _ _ => rfl, fun _ _ => rfl⟩
theorem zfi.tr {l h l1 h1 l2 h2 : Nat} {M M1 M2 : qv_Mem} (f : zfi l1 h1 M M1) (g : zfi l2 h2 M1 M2) (a1 : l ≤ l1) (a2 : h1 ≤ h) (a3 : l ≤ l2) (a4 : h2 ≤ h) : zfi l h M M2 :=
  ⟨fun a ha => (g.1 a (by omega)).trans (f.1 a (by omega)), fun a ha => (g.2.1 a (by omega)).trans (f.2.1 a (by omega)), fun a ha => (g.2.2 a (by omega)).trans (f.2.2 a (by omega))⟩
theorem zfi_zr (M : qv_Mem) (c : Nat) : zfi c (c + 1) M (qv_zr M c) := by
  refine ⟨fun a ha => ?_, fun a ha => ?_, fun a ha => ?_⟩
  · funext j; show (if a = c then _ else _) = _; rw [if_neg (by omega)]
  · funext j; show (if a = c then _ else _) = _; rw [if_neg (by omega)]
  · funext j; show (if a = c then _ else _) = _; rw [if_neg (by omega)]
theorem zfi_S (M : qv_Mem) (c k : Nat) (v : Int32) : zfi c (c + 1) M (qv_upS M c k v) := ⟨fun _ _ => rfl, fun _ _ => rfl, fun a ha => zs_ne (by omega)⟩
theorem zfi_I (M : qv_Mem) (c k : Nat) (v : Int32) : zfi c (c + 1) M (qv_upI M c k v) := ⟨fun a ha => zup_ne (by omega), fun _ _ => rfl, fun _ _ => rfl⟩
theorem zT.fi {M M1 : qv_Mem} {t p l h : Nat} {A : zq_T} (k : zT M t p A) (f : zfi l h M M1) (ht : t < l ∨ h ≤ t) (hp : p < l ∨ h ≤ p) : zT M1 t p A := by
  unfold zT
  rw [f.2.1 p hp, f.2.2 t ht]
  exact k
theorem zfi.s {M M1 : qv_Mem} {c k l h : Nat} {v : Int32} (f : zfi l h M M1) (e : M.2.2 c k = v) (hc : c < l ∨ h ≤ c) : M1.2.2 c k = v := by rw [f.2.2 c hc]; exact e
theorem zfi.p {M M1 : qv_Mem} {c l h : Nat} (f : zfi l h M M1) (e : ∀ g, g < 7 → M.1 c g = nI 1) (hc : c < l ∨ h ≤ c) : ∀ g, g < 7 → M1.1 c g = nI 1 := by rw [f.1 c hc]; exact e
abbrev kO (o : Option qv_Mem) (Q : qv_Mem → Prop) : Prop := ∃ M2, o = some M2 ∧ Q M2
theorem kal {M : qv_Mem} {c : Nat} {k : qv_Mem → Option qv_Mem} {Q : qv_Mem → Prop} (h : ∀ M1, zfi c (c + 1) M M1 → kO (k M1) Q) : kO (qv_al c M k) Q := h _ (zfi_zr M c)
theorem kpS {M : qv_Mem} {c f : Nat} {v : Int32} {k : qv_Mem → Option qv_Mem} {Q : qv_Mem → Prop} (h : ∀ M1, M1.2.2 c f = v → (∀ j, j ≠ f → M1.2.2 c j = M.2.2 c j) → zfi c (c + 1) M M1 → kO (k M1) Q) : kO (qv_pS c f v M k) Q := h _ (zs_at M c f v) (fun j hj => zs_ne2 (fun q => hj q.2)) (zfi_S M c f v)
theorem kpr {M : qv_Mem} {c : Nat} {k : qv_Mem → Option qv_Mem} {Q : qv_Mem → Prop} (h : ∀ M1, (∀ g, g < 7 → M1.1 c g = nI 1) → zfi c (c + 1) M M1 → kO (k M1) Q) : kO (qv_stI 7 c 0 1 M (fun N1 => qv_stI 7 c 1 1 N1 (fun N2 => qv_stI 7 c 2 1 N2 (fun N3 => qv_stI 7 c 3 1 N3 (fun N4 => qv_stI 7 c 4 1 N4 (fun N5 => qv_stI 7 c 5 1 N5 (fun N6 => qv_stI 7 c 6 1 N6 k))))))) Q := by
  have st : ∀ (i : Nat) (N : qv_Mem) (kk : qv_Mem → Option qv_Mem), i < 7 → qv_stI 7 c (nI i) 1 N kk = kk (qv_upI N c i 1) := fun i N kk hi => zi_stI hi (by omega)
  rw [show (0 : Int32) = nI 0 from id rfl, st 0 _ _ (by omega)]
  rw [show (2 : Int32) = nI 2 from id rfl, show (3 : Int32) = nI 3 from id rfl, show (4 : Int32) = nI 4 from id rfl, show (5 : Int32) = nI 5 from id rfl, show (6 : Int32) = nI 6 from id rfl]
  have s1 : ∀ (N : qv_Mem) (kk : qv_Mem → Option qv_Mem), qv_stI 7 c 1 1 N kk = kk (qv_upI N c 1 1) := fun N kk => st 1 N kk (by omega)
  rw [s1, st 2 _ _ (by omega), st 3 _ _ (by omega), st 4 _ _ (by omega), st 5 _ _ (by omega), st 6 _ _ (by omega)]
  refine h _ (fun g hg => ?_) ?_
  · rw [zup_at, zup_at, zup_at, zup_at, zup_at, zup_at, zup_at]
    have q : g = 0 ∨ g = 1 ∨ g = 2 ∨ g = 3 ∨ g = 4 ∨ g = 5 ∨ g = 6 := by omega
    rcases q with rfl | rfl | rfl | rfl | rfl | rfl | rfl <;> rfl
  · have t := fun (N N1 : qv_Mem) (a : zfi c (c + 1) M N) (b : zfi c (c + 1) N N1) => (zfi.tr (l := c) (h := c + 1) a b (by omega) (by omega) (by omega) (by omega))
    exact t _ _ (t _ _ (t _ _ (t _ _ (t _ _ (t _ _ (zfi_I M c 0 1) (zfi_I _ c 1 1)) (zfi_I _ c 2 1)) (zfi_I _ c 3 1)) (zfi_I _ c 4 1)) (zfi_I _ c 5 1)) (zfi_I _ c 6 1)
theorem k7 {T0 : List qv_Ent} {b : Nat} {M : qv_Mem} {k : qv_Mem → Option qv_Mem} {Q : qv_Mem → Prop} (hb : T0.length = b) (h : ∀ M1, zT M1 b (b + 1) zq_one → zfi b (b + 2) M M1 → kO (k M1) Q) : kO (qv_bo (g_X7 T0 b M) k) Q := by
  have hp : qv_rf (T0 ++ [(7, 2, [some (some (b + 1)), none]), (21, 16, [])]) b 0 = b + 1 := by
    unfold qv_rf
    rw [show b = b + 0 from rfl, qv_at hb (k := 0) rfl]
    rfl
  obtain ⟨M1, e, ht, ho⟩ := z_makeUnit hp (qv_upS (qv_zr M (b + 1)) b 1 0)
  have e2 : g_X7 T0 b M = some M1 := by
    show qv_bo (f_X7_makeUnit _ b (qv_upS (qv_zr M (b + 1)) b 1 0)) _ = _
    rw [e]
    rfl
  rw [e2, zbo]
  have f3 : zfi b (b + 2) (qv_upS (qv_zr M (b + 1)) b 1 0) M1 := ⟨fun a _ => by rw [ho.1], fun a ha => ho.2.1 a (by omega), fun a ha => by funext j; exact ho.2.2 a j (by omega)⟩
  exact h M1 ht ((((zfi_zr M (b + 1)).tr (zfi_S _ b 1 0) (l := b) (h := b + 2) (by omega) (by omega) (by omega) (by omega))).tr f3 (by omega) (by omega) (by omega) (by omega))
theorem k6 {T0 : List qv_Ent} {b : Nat} {M : qv_Mem} {k : qv_Mem → Option qv_Mem} {Q : qv_Mem → Prop} (h : ∀ M1, M1.2.2 b 1 = 0 → zfi b (b + 2) M M1 → kO (k M1) Q) : kO (qv_bo (g_X6 T0 b M) k) Q :=
  h _ (zs_at (qv_zr M (b + 1)) b 1 0) ((zfi_zr M (b + 1)).tr (zfi_S _ b 1 0) (by omega) (by omega) (by omega) (by omega))
theorem k8 {T0 : List qv_Ent} {b : Nat} {M : qv_Mem} {k : qv_Mem → Option qv_Mem} {Q : qv_Mem → Prop} (h : ∀ M1, M1.2.2 b 1 = 0 → zfi b (b + 2) M M1 → kO (k M1) Q) : kO (qv_bo (g_X8 T0 b M) k) Q :=
  h _ (zs_at (qv_zr M (b + 1)) b 1 0) ((zfi_zr M (b + 1)).tr (zfi_S _ b 1 0) (by omega) (by omega) (by omega) (by omega))
set_option maxHeartbeats 1000000 in
theorem k0 {T0 : List qv_Ent} {b : Nat} {M : qv_Mem} {k : qv_Mem → Option qv_Mem} {Q : qv_Mem → Prop} (hb : T0.length = b) (h : ∀ M1, zT M1 (b + 4) (b + 5) zq_one → zT M1 (b + 6) (b + 7) zq_one → zT M1 (b + 8) (b + 9) zq_one → zT M1 (b + 10) (b + 11) zq_one → M1.2.2 (b + 12) 1 = 0 → M1.2.2 (b + 14) 1 = 0 → M1.2.2 (b + 16) 1 = 0 → (∀ g, g < 7 → M1.1 (b + 3) g = nI 1) → zfi b (b + 18) M M1 → kO (k M1) Q) : kO (qv_bo (g_X0 T0 b M) k) Q := by
  have key : kO (g_X0 T0 b M) (fun M1 => zT M1 (b + 4) (b + 5) zq_one ∧ zT M1 (b + 6) (b + 7) zq_one ∧ zT M1 (b + 8) (b + 9) zq_one ∧ zT M1 (b + 10) (b + 11) zq_one ∧ M1.2.2 (b + 12) 1 = 0 ∧ M1.2.2 (b + 14) 1 = 0 ∧ M1.2.2 (b + 16) 1 = 0 ∧ (∀ g, g < 7 → M1.1 (b + 3) g = nI 1) ∧ zfi b (b + 18) M M1) := by
    unfold g_X0
    refine kal (fun M1 f1 => ?_)
    refine kal (fun M2 f2 => ?_)
    refine kal (fun M3 f3 => ?_)
    refine kal (fun M4 f4 => ?_)
    refine k7 (qv_ln hb rfl) (fun M5 t5 f5 => ?_)
    refine kal (fun M6 f6 => ?_)
    refine k7 (qv_ln hb rfl) (fun M7 t7 f7 => ?_)
    refine kal (fun M8 f8 => ?_)
    refine k7 (qv_ln hb rfl) (fun M9 t9 f9 => ?_)
    refine kal (fun M10 f10 => ?_)
    refine k7 (qv_ln hb rfl) (fun M11 t11 f11 => ?_)
    refine kal (fun M12 f12 => ?_)
    refine k6 (fun M13 t13 f13 => ?_)
    refine kal (fun M14 f14 => ?_)
    refine k6 (fun M15 t15 f15 => ?_)
    refine kal (fun M16 f16 => ?_)
    refine k6 (fun M17 t17 f17 => ?_)
    refine kpr (fun M18 t18 f18 => ?_)
    have F1 : zfi b (b + 18) M M1 := f1.tr (zfi.rf (b + 1) (b + 1) M1) (by omega) (by omega) (by omega) (by omega)
    have F2 : zfi b (b + 18) M M2 := F1.tr f2 (by omega) (by omega) (by omega) (by omega)
    have F3 : zfi b (b + 18) M M3 := F2.tr f3 (by omega) (by omega) (by omega) (by omega)
    have F4 : zfi b (b + 18) M M4 := F3.tr f4 (by omega) (by omega) (by omega) (by omega)
    have F5 : zfi b (b + 18) M M5 := F4.tr f5 (by omega) (by omega) (by omega) (by omega)
    have F6 : zfi b (b + 18) M M6 := F5.tr f6 (by omega) (by omega) (by omega) (by omega)
    have F7 : zfi b (b + 18) M M7 := F6.tr f7 (by omega) (by omega) (by omega) (by omega)
    have F8 : zfi b (b + 18) M M8 := F7.tr f8 (by omega) (by omega) (by omega) (by omega)
    have F9 : zfi b (b + 18) M M9 := F8.tr f9 (by omega) (by omega) (by omega) (by omega)
    have F10 : zfi b (b + 18) M M10 := F9.tr f10 (by omega) (by omega) (by omega) (by omega)
    have F11 : zfi b (b + 18) M M11 := F10.tr f11 (by omega) (by omega) (by omega) (by omega)
    have F12 : zfi b (b + 18) M M12 := F11.tr f12 (by omega) (by omega) (by omega) (by omega)
    have F13 : zfi b (b + 18) M M13 := F12.tr f13 (by omega) (by omega) (by omega) (by omega)
    have F14 : zfi b (b + 18) M M14 := F13.tr f14 (by omega) (by omega) (by omega) (by omega)
    have F15 : zfi b (b + 18) M M15 := F14.tr f15 (by omega) (by omega) (by omega) (by omega)
    have F16 : zfi b (b + 18) M M16 := F15.tr f16 (by omega) (by omega) (by omega) (by omega)
    have F17 : zfi b (b + 18) M M17 := F16.tr f17 (by omega) (by omega) (by omega) (by omega)
    have F18 : zfi b (b + 18) M M18 := F17.tr f18 (by omega) (by omega) (by omega) (by omega)
    exact ⟨M18, rfl, (((((((((((((t5.fi f6 (by omega) (by omega)).fi f7 (by omega) (by omega)).fi f8 (by omega) (by omega)).fi f9 (by omega) (by omega)).fi f10 (by omega) (by omega)).fi f11 (by omega) (by omega)).fi f12 (by omega) (by omega)).fi f13 (by omega) (by omega)).fi f14 (by omega) (by omega)).fi f15 (by omega) (by omega)).fi f16 (by omega) (by omega)).fi f17 (by omega) (by omega)).fi f18 (by omega) (by omega)), (((((((((((t7.fi f8 (by omega) (by omega)).fi f9 (by omega) (by omega)).fi f10 (by omega) (by omega)).fi f11 (by omega) (by omega)).fi f12 (by omega) (by omega)).fi f13 (by omega) (by omega)).fi f14 (by omega) (by omega)).fi f15 (by omega) (by omega)).fi f16 (by omega) (by omega)).fi f17 (by omega) (by omega)).fi f18 (by omega) (by omega)), (((((((((t9.fi f10 (by omega) (by omega)).fi f11 (by omega) (by omega)).fi f12 (by omega) (by omega)).fi f13 (by omega) (by omega)).fi f14 (by omega) (by omega)).fi f15 (by omega) (by omega)).fi f16 (by omega) (by omega)).fi f17 (by omega) (by omega)).fi f18 (by omega) (by omega)), (((((((t11.fi f12 (by omega) (by omega)).fi f13 (by omega) (by omega)).fi f14 (by omega) (by omega)).fi f15 (by omega) (by omega)).fi f16 (by omega) (by omega)).fi f17 (by omega) (by omega)).fi f18 (by omega) (by omega)), (f18.s (f17.s (f16.s (f15.s (f14.s t13 (by omega)) (by omega)) (by omega)) (by omega)) (by omega)), (f18.s (f17.s (f16.s t15 (by omega)) (by omega)) (by omega)), (f18.s t17 (by omega)), t18, F18⟩
  obtain ⟨M1, e, x0, x1, x2, x3, x4, x5, x6, x7, x8⟩ := key
  rw [e, zbo]
  exact h M1 x0 x1 x2 x3 x4 x5 x6 x7 x8
set_option maxHeartbeats 1000000 in
theorem k3 {T0 : List qv_Ent} {b : Nat} {M : qv_Mem} {k : qv_Mem → Option qv_Mem} {Q : qv_Mem → Prop} (hb : T0.length = b) (h : ∀ M1, M1.2.2 b 2 = 0 → M1.2.2 b 3 = 0 → zfi b (b + 19) M M1 → kO (k M1) Q) : kO (qv_bo (g_X3 T0 b M) k) Q := by
  have key : kO (g_X3 T0 b M) (fun M1 => M1.2.2 b 2 = 0 ∧ M1.2.2 b 3 = 0 ∧ zfi b (b + 19) M M1) := by
    unfold g_X3
    refine kal (fun M1 f1 => ?_)
    refine kal (fun M2 f2 => ?_)
    refine kpS (fun M3 t3 u3 f3 => ?_)
    refine kpS (fun M4 t4 u4 f4 => ?_)
    refine kal (fun M5 f5 => ?_)
    refine k6 (fun M6 t6 f6 => ?_)
    refine kal (fun M7 f7 => ?_)
    refine k6 (fun M8 t8 f8 => ?_)
    refine kal (fun M9 f9 => ?_)
    refine k6 (fun M10 t10 f10 => ?_)
    refine kal (fun M11 f11 => ?_)
    refine k6 (fun M12 t12 f12 => ?_)
    refine kal (fun M13 f13 => ?_)
    refine k6 (fun M14 t14 f14 => ?_)
    refine kal (fun M15 f15 => ?_)
    refine k6 (fun M16 t16 f16 => ?_)
    refine kal (fun M17 f17 => ?_)
    refine k6 (fun M18 t18 f18 => ?_)
    refine kal (fun M19 f19 => ?_)
    refine k6 (fun M20 t20 f20 => ?_)
    have F1 : zfi b (b + 19) M M1 := f1.tr (zfi.rf (b + 1) (b + 1) M1) (by omega) (by omega) (by omega) (by omega)
    have F2 : zfi b (b + 19) M M2 := F1.tr f2 (by omega) (by omega) (by omega) (by omega)
    have F3 : zfi b (b + 19) M M3 := F2.tr f3 (by omega) (by omega) (by omega) (by omega)
    have F4 : zfi b (b + 19) M M4 := F3.tr f4 (by omega) (by omega) (by omega) (by omega)
    have F5 : zfi b (b + 19) M M5 := F4.tr f5 (by omega) (by omega) (by omega) (by omega)
    have F6 : zfi b (b + 19) M M6 := F5.tr f6 (by omega) (by omega) (by omega) (by omega)
    have F7 : zfi b (b + 19) M M7 := F6.tr f7 (by omega) (by omega) (by omega) (by omega)
    have F8 : zfi b (b + 19) M M8 := F7.tr f8 (by omega) (by omega) (by omega) (by omega)
    have F9 : zfi b (b + 19) M M9 := F8.tr f9 (by omega) (by omega) (by omega) (by omega)
    have F10 : zfi b (b + 19) M M10 := F9.tr f10 (by omega) (by omega) (by omega) (by omega)
    have F11 : zfi b (b + 19) M M11 := F10.tr f11 (by omega) (by omega) (by omega) (by omega)
    have F12 : zfi b (b + 19) M M12 := F11.tr f12 (by omega) (by omega) (by omega) (by omega)
    have F13 : zfi b (b + 19) M M13 := F12.tr f13 (by omega) (by omega) (by omega) (by omega)
    have F14 : zfi b (b + 19) M M14 := F13.tr f14 (by omega) (by omega) (by omega) (by omega)
    have F15 : zfi b (b + 19) M M15 := F14.tr f15 (by omega) (by omega) (by omega) (by omega)
    have F16 : zfi b (b + 19) M M16 := F15.tr f16 (by omega) (by omega) (by omega) (by omega)
    have F17 : zfi b (b + 19) M M17 := F16.tr f17 (by omega) (by omega) (by omega) (by omega)
    have F18 : zfi b (b + 19) M M18 := F17.tr f18 (by omega) (by omega) (by omega) (by omega)
    have F19 : zfi b (b + 19) M M19 := F18.tr f19 (by omega) (by omega) (by omega) (by omega)
    have F20 : zfi b (b + 19) M M20 := F19.tr f20 (by omega) (by omega) (by omega) (by omega)
    exact ⟨M20, rfl, (f20.s (f19.s (f18.s (f17.s (f16.s (f15.s (f14.s (f13.s (f12.s (f11.s (f10.s (f9.s (f8.s (f7.s (f6.s (f5.s ((u4 2 (by omega)).trans t3) (by omega)) (by omega)) (by omega)) (by omega)) (by omega)) (by omega)) (by omega)) (by omega)) (by omega)) (by omega)) (by omega)) (by omega)) (by omega)) (by omega)) (by omega)) (by omega)), (f20.s (f19.s (f18.s (f17.s (f16.s (f15.s (f14.s (f13.s (f12.s (f11.s (f10.s (f9.s (f8.s (f7.s (f6.s (f5.s t4 (by omega)) (by omega)) (by omega)) (by omega)) (by omega)) (by omega)) (by omega)) (by omega)) (by omega)) (by omega)) (by omega)) (by omega)) (by omega)) (by omega)) (by omega)) (by omega)), F20⟩
  obtain ⟨M1, e, x0, x1, x2⟩ := key
  rw [e, zbo]
  exact h M1 x0 x1 x2
set_option maxHeartbeats 1000000 in
theorem k5 {T0 : List qv_Ent} {b : Nat} {M : qv_Mem} {k : qv_Mem → Option qv_Mem} {Q : qv_Mem → Prop} (hb : T0.length = b) (h : ∀ M1, zfi b (b + 5) M M1 → kO (k M1) Q) : kO (qv_bo (g_X5 T0 b M) k) Q := by
  have key : kO (g_X5 T0 b M) (fun M1 => zfi b (b + 5) M M1) := by
    unfold g_X5
    refine kal (fun M1 f1 => ?_)
    refine kal (fun M2 f2 => ?_)
    refine kal (fun M3 f3 => ?_)
    refine kal (fun M4 f4 => ?_)
    refine kpS (fun M5 t5 u5 f5 => ?_)
    refine kpS (fun M6 t6 u6 f6 => ?_)
    refine kpS (fun M7 t7 u7 f7 => ?_)
    have F1 : zfi b (b + 5) M M1 := f1.tr (zfi.rf (b + 1) (b + 1) M1) (by omega) (by omega) (by omega) (by omega)
    have F2 : zfi b (b + 5) M M2 := F1.tr f2 (by omega) (by omega) (by omega) (by omega)
    have F3 : zfi b (b + 5) M M3 := F2.tr f3 (by omega) (by omega) (by omega) (by omega)
    have F4 : zfi b (b + 5) M M4 := F3.tr f4 (by omega) (by omega) (by omega) (by omega)
    have F5 : zfi b (b + 5) M M5 := F4.tr f5 (by omega) (by omega) (by omega) (by omega)
    have F6 : zfi b (b + 5) M M6 := F5.tr f6 (by omega) (by omega) (by omega) (by omega)
    have F7 : zfi b (b + 5) M M7 := F6.tr f7 (by omega) (by omega) (by omega) (by omega)
    exact ⟨M7, rfl, F7⟩
  obtain ⟨M1, e, x0⟩ := key
  rw [e, zbo]
  exact h M1 x0
set_option maxHeartbeats 1000000 in
theorem k2 {T0 : List qv_Ent} {b : Nat} {M : qv_Mem} {k : qv_Mem → Option qv_Mem} {Q : qv_Mem → Prop} (hb : T0.length = b) (h : ∀ M1, M1.2.2 b 8 = 0 → M1.2.2 b 9 = 0 → zfi b (b + 10) M M1 → kO (k M1) Q) : kO (qv_bo (g_X2 T0 b M) k) Q := by
  have key : kO (g_X2 T0 b M) (fun M1 => M1.2.2 b 8 = 0 ∧ M1.2.2 b 9 = 0 ∧ zfi b (b + 10) M M1) := by
    unfold g_X2
    refine kal (fun M1 f1 => ?_)
    refine kal (fun M2 f2 => ?_)
    refine kal (fun M3 f3 => ?_)
    refine kal (fun M4 f4 => ?_)
    refine kal (fun M5 f5 => ?_)
    refine kal (fun M6 f6 => ?_)
    refine kal (fun M7 f7 => ?_)
    refine kal (fun M8 f8 => ?_)
    refine k7 (qv_ln hb rfl) (fun M9 t9 f9 => ?_)
    refine kpS (fun M10 t10 u10 f10 => ?_)
    refine kpS (fun M11 t11 u11 f11 => ?_)
    have F1 : zfi b (b + 10) M M1 := f1.tr (zfi.rf (b + 1) (b + 1) M1) (by omega) (by omega) (by omega) (by omega)
    have F2 : zfi b (b + 10) M M2 := F1.tr f2 (by omega) (by omega) (by omega) (by omega)
    have F3 : zfi b (b + 10) M M3 := F2.tr f3 (by omega) (by omega) (by omega) (by omega)
    have F4 : zfi b (b + 10) M M4 := F3.tr f4 (by omega) (by omega) (by omega) (by omega)
    have F5 : zfi b (b + 10) M M5 := F4.tr f5 (by omega) (by omega) (by omega) (by omega)
    have F6 : zfi b (b + 10) M M6 := F5.tr f6 (by omega) (by omega) (by omega) (by omega)
    have F7 : zfi b (b + 10) M M7 := F6.tr f7 (by omega) (by omega) (by omega) (by omega)
    have F8 : zfi b (b + 10) M M8 := F7.tr f8 (by omega) (by omega) (by omega) (by omega)
    have F9 : zfi b (b + 10) M M9 := F8.tr f9 (by omega) (by omega) (by omega) (by omega)
    have F10 : zfi b (b + 10) M M10 := F9.tr f10 (by omega) (by omega) (by omega) (by omega)
    have F11 : zfi b (b + 10) M M11 := F10.tr f11 (by omega) (by omega) (by omega) (by omega)
    exact ⟨M11, rfl, ((u11 8 (by omega)).trans t10), t11, F11⟩
  obtain ⟨M1, e, x0, x1, x2⟩ := key
  rw [e, zbo]
  exact h M1 x0 x1 x2
set_option maxHeartbeats 1000000 in
theorem k1 {T0 : List qv_Ent} {b : Nat} {M : qv_Mem} {k : qv_Mem → Option qv_Mem} {Q : qv_Mem → Prop} (hb : T0.length = b) (h : ∀ M1, zfi b (b + 9) M M1 → kO (k M1) Q) : kO (qv_bo (g_X1 T0 b M) k) Q := by
  have key : kO (g_X1 T0 b M) (fun M1 => zfi b (b + 9) M M1) := by
    unfold g_X1
    refine kal (fun M1 f1 => ?_)
    refine kal (fun M2 f2 => ?_)
    refine kpS (fun M3 t3 u3 f3 => ?_)
    refine kal (fun M4 f4 => ?_)
    refine k7 (qv_ln hb rfl) (fun M5 t5 f5 => ?_)
    refine kal (fun M6 f6 => ?_)
    refine k7 (qv_ln hb rfl) (fun M7 t7 f7 => ?_)
    refine kal (fun M8 f8 => ?_)
    refine k7 (qv_ln hb rfl) (fun M9 t9 f9 => ?_)
    have F1 : zfi b (b + 9) M M1 := f1.tr (zfi.rf (b + 1) (b + 1) M1) (by omega) (by omega) (by omega) (by omega)
    have F2 : zfi b (b + 9) M M2 := F1.tr f2 (by omega) (by omega) (by omega) (by omega)
    have F3 : zfi b (b + 9) M M3 := F2.tr f3 (by omega) (by omega) (by omega) (by omega)
    have F4 : zfi b (b + 9) M M4 := F3.tr f4 (by omega) (by omega) (by omega) (by omega)
    have F5 : zfi b (b + 9) M M5 := F4.tr f5 (by omega) (by omega) (by omega) (by omega)
    have F6 : zfi b (b + 9) M M6 := F5.tr f6 (by omega) (by omega) (by omega) (by omega)
    have F7 : zfi b (b + 9) M M7 := F6.tr f7 (by omega) (by omega) (by omega) (by omega)
    have F8 : zfi b (b + 9) M M8 := F7.tr f8 (by omega) (by omega) (by omega) (by omega)
    have F9 : zfi b (b + 9) M M9 := F8.tr f9 (by omega) (by omega) (by omega) (by omega)
    exact ⟨M9, rfl, F9⟩
  obtain ⟨M1, e, x0⟩ := key
  rw [e, zbo]
  exact h M1 x0
set_option maxHeartbeats 1000000 in
theorem k4 {T0 : List qv_Ent} {b : Nat} {M : qv_Mem} {k : qv_Mem → Option qv_Mem} {Q : qv_Mem → Prop} (hb : T0.length = b) (h : ∀ M1, zfi b (b + 14) M M1 → kO (k M1) Q) : kO (qv_bo (g_X4 T0 b M) k) Q := by
  have key : kO (g_X4 T0 b M) (fun M1 => zfi b (b + 14) M M1) := by
    unfold g_X4
    refine kal (fun M1 f1 => ?_)
    refine k7 (qv_ln hb rfl) (fun M2 t2 f2 => ?_)
    refine kal (fun M3 f3 => ?_)
    refine k7 (qv_ln hb rfl) (fun M4 t4 f4 => ?_)
    refine kal (fun M5 f5 => ?_)
    refine k1 (qv_ln hb rfl) (fun M6 f6 => ?_)
    have F1 : zfi b (b + 14) M M1 := f1.tr (zfi.rf (b + 1) (b + 1) M1) (by omega) (by omega) (by omega) (by omega)
    have F2 : zfi b (b + 14) M M2 := F1.tr f2 (by omega) (by omega) (by omega) (by omega)
    have F3 : zfi b (b + 14) M M3 := F2.tr f3 (by omega) (by omega) (by omega) (by omega)
    have F4 : zfi b (b + 14) M M4 := F3.tr f4 (by omega) (by omega) (by omega) (by omega)
    have F5 : zfi b (b + 14) M M5 := F4.tr f5 (by omega) (by omega) (by omega) (by omega)
    have F6 : zfi b (b + 14) M M6 := F5.tr f6 (by omega) (by omega) (by omega) (by omega)
    exact ⟨M6, rfl, F6⟩
  obtain ⟨M1, e, x0⟩ := key
  rw [e, zbo]
  exact h M1 x0
set_option maxHeartbeats 1000000 in
theorem k9 {T0 : List qv_Ent} {b : Nat} {M : qv_Mem} {k : qv_Mem → Option qv_Mem} {Q : qv_Mem → Prop} (hb : T0.length = b) (h : ∀ M1, zT M1 (b + 5) (b + 6) zq_one → zT M1 (b + 7) (b + 8) zq_one → zT M1 (b + 9) (b + 10) zq_one → zT M1 (b + 11) (b + 12) zq_one → M1.2.2 (b + 13) 1 = 0 → M1.2.2 (b + 15) 1 = 0 → M1.2.2 (b + 17) 1 = 0 → (∀ g, g < 7 → M1.1 (b + 4) g = nI 1) → M1.2.2 b 2 = 0 → M1.2.2 (b + 37) 2 = 0 → M1.2.2 (b + 37) 3 = 0 → M1.2.2 (b + 56) 1 = 0 → M1.2.2 (b + 63) 8 = 0 → M1.2.2 (b + 63) 9 = 0 → zfi b (b + 106) M M1 → kO (k M1) Q) : kO (qv_bo (g_X9 T0 b M) k) Q := by
  have key : kO (g_X9 T0 b M) (fun M1 => zT M1 (b + 5) (b + 6) zq_one ∧ zT M1 (b + 7) (b + 8) zq_one ∧ zT M1 (b + 9) (b + 10) zq_one ∧ zT M1 (b + 11) (b + 12) zq_one ∧ M1.2.2 (b + 13) 1 = 0 ∧ M1.2.2 (b + 15) 1 = 0 ∧ M1.2.2 (b + 17) 1 = 0 ∧ (∀ g, g < 7 → M1.1 (b + 4) g = nI 1) ∧ M1.2.2 b 2 = 0 ∧ M1.2.2 (b + 37) 2 = 0 ∧ M1.2.2 (b + 37) 3 = 0 ∧ M1.2.2 (b + 56) 1 = 0 ∧ M1.2.2 (b + 63) 8 = 0 ∧ M1.2.2 (b + 63) 9 = 0 ∧ zfi b (b + 106) M M1) := by
    unfold g_X9
    refine kal (fun M1 f1 => ?_)
    refine k0 (qv_ln hb rfl) (fun M2 t2_0 t2_1 t2_2 t2_3 t2_4 t2_5 t2_6 t2_7 f2 => ?_)
    refine kal (fun M3 f3 => ?_)
    refine k0 (qv_ln hb rfl) (fun M4 t4_0 t4_1 t4_2 t4_3 t4_4 t4_5 t4_6 t4_7 f4 => ?_)
    refine kpS (fun M5 t5 u5 f5 => ?_)
    refine kal (fun M6 f6 => ?_)
    refine k3 (qv_ln hb rfl) (fun M7 t7_0 t7_1 f7 => ?_)
    refine kal (fun M8 f8 => ?_)
    refine k8 (fun M9 t9 f9 => ?_)
    refine kal (fun M10 f10 => ?_)
    refine k5 (qv_ln hb rfl) (fun M11 f11 => ?_)
    refine kal (fun M12 f12 => ?_)
    refine k2 (qv_ln hb rfl) (fun M13 t13_0 t13_1 f13 => ?_)
    refine kal (fun M14 f14 => ?_)
    refine k1 (qv_ln hb rfl) (fun M15 f15 => ?_)
    refine kal (fun M16 f16 => ?_)
    refine k4 (qv_ln hb rfl) (fun M17 f17 => ?_)
    refine kal (fun M18 f18 => ?_)
    refine k6 (fun M19 t19 f19 => ?_)
    refine kal (fun M20 f20 => ?_)
    refine k7 (qv_ln hb rfl) (fun M21 t21 f21 => ?_)
    refine kal (fun M22 f22 => ?_)
    refine k7 (qv_ln hb rfl) (fun M23 t23 f23 => ?_)
    refine kal (fun M24 f24 => ?_)
    refine k7 (qv_ln hb rfl) (fun M25 t25 f25 => ?_)
    refine kal (fun M26 f26 => ?_)
    refine k7 (qv_ln hb rfl) (fun M27 t27 f27 => ?_)
    have F1 : zfi b (b + 106) M M1 := f1.tr (zfi.rf (b + 1) (b + 1) M1) (by omega) (by omega) (by omega) (by omega)
    have F2 : zfi b (b + 106) M M2 := F1.tr f2 (by omega) (by omega) (by omega) (by omega)
    have F3 : zfi b (b + 106) M M3 := F2.tr f3 (by omega) (by omega) (by omega) (by omega)
    have F4 : zfi b (b + 106) M M4 := F3.tr f4 (by omega) (by omega) (by omega) (by omega)
    have F5 : zfi b (b + 106) M M5 := F4.tr f5 (by omega) (by omega) (by omega) (by omega)
    have F6 : zfi b (b + 106) M M6 := F5.tr f6 (by omega) (by omega) (by omega) (by omega)
    have F7 : zfi b (b + 106) M M7 := F6.tr f7 (by omega) (by omega) (by omega) (by omega)
    have F8 : zfi b (b + 106) M M8 := F7.tr f8 (by omega) (by omega) (by omega) (by omega)
    have F9 : zfi b (b + 106) M M9 := F8.tr f9 (by omega) (by omega) (by omega) (by omega)
    have F10 : zfi b (b + 106) M M10 := F9.tr f10 (by omega) (by omega) (by omega) (by omega)
    have F11 : zfi b (b + 106) M M11 := F10.tr f11 (by omega) (by omega) (by omega) (by omega)
    have F12 : zfi b (b + 106) M M12 := F11.tr f12 (by omega) (by omega) (by omega) (by omega)
    have F13 : zfi b (b + 106) M M13 := F12.tr f13 (by omega) (by omega) (by omega) (by omega)
    have F14 : zfi b (b + 106) M M14 := F13.tr f14 (by omega) (by omega) (by omega) (by omega)
    have F15 : zfi b (b + 106) M M15 := F14.tr f15 (by omega) (by omega) (by omega) (by omega)
    have F16 : zfi b (b + 106) M M16 := F15.tr f16 (by omega) (by omega) (by omega) (by omega)
    have F17 : zfi b (b + 106) M M17 := F16.tr f17 (by omega) (by omega) (by omega) (by omega)
    have F18 : zfi b (b + 106) M M18 := F17.tr f18 (by omega) (by omega) (by omega) (by omega)
    have F19 : zfi b (b + 106) M M19 := F18.tr f19 (by omega) (by omega) (by omega) (by omega)
    have F20 : zfi b (b + 106) M M20 := F19.tr f20 (by omega) (by omega) (by omega) (by omega)
    have F21 : zfi b (b + 106) M M21 := F20.tr f21 (by omega) (by omega) (by omega) (by omega)
    have F22 : zfi b (b + 106) M M22 := F21.tr f22 (by omega) (by omega) (by omega) (by omega)
    have F23 : zfi b (b + 106) M M23 := F22.tr f23 (by omega) (by omega) (by omega) (by omega)
    have F24 : zfi b (b + 106) M M24 := F23.tr f24 (by omega) (by omega) (by omega) (by omega)
    have F25 : zfi b (b + 106) M M25 := F24.tr f25 (by omega) (by omega) (by omega) (by omega)
    have F26 : zfi b (b + 106) M M26 := F25.tr f26 (by omega) (by omega) (by omega) (by omega)
    have F27 : zfi b (b + 106) M M27 := F26.tr f27 (by omega) (by omega) (by omega) (by omega)
    exact ⟨M27, rfl, (((((((((((((((((((((((((t2_0.fi f3 (by omega) (by omega)).fi f4 (by omega) (by omega)).fi f5 (by omega) (by omega)).fi f6 (by omega) (by omega)).fi f7 (by omega) (by omega)).fi f8 (by omega) (by omega)).fi f9 (by omega) (by omega)).fi f10 (by omega) (by omega)).fi f11 (by omega) (by omega)).fi f12 (by omega) (by omega)).fi f13 (by omega) (by omega)).fi f14 (by omega) (by omega)).fi f15 (by omega) (by omega)).fi f16 (by omega) (by omega)).fi f17 (by omega) (by omega)).fi f18 (by omega) (by omega)).fi f19 (by omega) (by omega)).fi f20 (by omega) (by omega)).fi f21 (by omega) (by omega)).fi f22 (by omega) (by omega)).fi f23 (by omega) (by omega)).fi f24 (by omega) (by omega)).fi f25 (by omega) (by omega)).fi f26 (by omega) (by omega)).fi f27 (by omega) (by omega)), (((((((((((((((((((((((((t2_1.fi f3 (by omega) (by omega)).fi f4 (by omega) (by omega)).fi f5 (by omega) (by omega)).fi f6 (by omega) (by omega)).fi f7 (by omega) (by omega)).fi f8 (by omega) (by omega)).fi f9 (by omega) (by omega)).fi f10 (by omega) (by omega)).fi f11 (by omega) (by omega)).fi f12 (by omega) (by omega)).fi f13 (by omega) (by omega)).fi f14 (by omega) (by omega)).fi f15 (by omega) (by omega)).fi f16 (by omega) (by omega)).fi f17 (by omega) (by omega)).fi f18 (by omega) (by omega)).fi f19 (by omega) (by omega)).fi f20 (by omega) (by omega)).fi f21 (by omega) (by omega)).fi f22 (by omega) (by omega)).fi f23 (by omega) (by omega)).fi f24 (by omega) (by omega)).fi f25 (by omega) (by omega)).fi f26 (by omega) (by omega)).fi f27 (by omega) (by omega)), (((((((((((((((((((((((((t2_2.fi f3 (by omega) (by omega)).fi f4 (by omega) (by omega)).fi f5 (by omega) (by omega)).fi f6 (by omega) (by omega)).fi f7 (by omega) (by omega)).fi f8 (by omega) (by omega)).fi f9 (by omega) (by omega)).fi f10 (by omega) (by omega)).fi f11 (by omega) (by omega)).fi f12 (by omega) (by omega)).fi f13 (by omega) (by omega)).fi f14 (by omega) (by omega)).fi f15 (by omega) (by omega)).fi f16 (by omega) (by omega)).fi f17 (by omega) (by omega)).fi f18 (by omega) (by omega)).fi f19 (by omega) (by omega)).fi f20 (by omega) (by omega)).fi f21 (by omega) (by omega)).fi f22 (by omega) (by omega)).fi f23 (by omega) (by omega)).fi f24 (by omega) (by omega)).fi f25 (by omega) (by omega)).fi f26 (by omega) (by omega)).fi f27 (by omega) (by omega)), (((((((((((((((((((((((((t2_3.fi f3 (by omega) (by omega)).fi f4 (by omega) (by omega)).fi f5 (by omega) (by omega)).fi f6 (by omega) (by omega)).fi f7 (by omega) (by omega)).fi f8 (by omega) (by omega)).fi f9 (by omega) (by omega)).fi f10 (by omega) (by omega)).fi f11 (by omega) (by omega)).fi f12 (by omega) (by omega)).fi f13 (by omega) (by omega)).fi f14 (by omega) (by omega)).fi f15 (by omega) (by omega)).fi f16 (by omega) (by omega)).fi f17 (by omega) (by omega)).fi f18 (by omega) (by omega)).fi f19 (by omega) (by omega)).fi f20 (by omega) (by omega)).fi f21 (by omega) (by omega)).fi f22 (by omega) (by omega)).fi f23 (by omega) (by omega)).fi f24 (by omega) (by omega)).fi f25 (by omega) (by omega)).fi f26 (by omega) (by omega)).fi f27 (by omega) (by omega)), (f27.s (f26.s (f25.s (f24.s (f23.s (f22.s (f21.s (f20.s (f19.s (f18.s (f17.s (f16.s (f15.s (f14.s (f13.s (f12.s (f11.s (f10.s (f9.s (f8.s (f7.s (f6.s (f5.s (f4.s (f3.s t2_4 (by omega)) (by omega)) (by omega)) (by omega)) (by omega)) (by omega)) (by omega)) (by omega)) (by omega)) (by omega)) (by omega)) (by omega)) (by omega)) (by omega)) (by omega)) (by omega)) (by omega)) (by omega)) (by omega)) (by omega)) (by omega)) (by omega)) (by omega)) (by omega)) (by omega)), (f27.s (f26.s (f25.s (f24.s (f23.s (f22.s (f21.s (f20.s (f19.s (f18.s (f17.s (f16.s (f15.s (f14.s (f13.s (f12.s (f11.s (f10.s (f9.s (f8.s (f7.s (f6.s (f5.s (f4.s (f3.s t2_5 (by omega)) (by omega)) (by omega)) (by omega)) (by omega)) (by omega)) (by omega)) (by omega)) (by omega)) (by omega)) (by omega)) (by omega)) (by omega)) (by omega)) (by omega)) (by omega)) (by omega)) (by omega)) (by omega)) (by omega)) (by omega)) (by omega)) (by omega)) (by omega)) (by omega)), (f27.s (f26.s (f25.s (f24.s (f23.s (f22.s (f21.s (f20.s (f19.s (f18.s (f17.s (f16.s (f15.s (f14.s (f13.s (f12.s (f11.s (f10.s (f9.s (f8.s (f7.s (f6.s (f5.s (f4.s (f3.s t2_6 (by omega)) (by omega)) (by omega)) (by omega)) (by omega)) (by omega)) (by omega)) (by omega)) (by omega)) (by omega)) (by omega)) (by omega)) (by omega)) (by omega)) (by omega)) (by omega)) (by omega)) (by omega)) (by omega)) (by omega)) (by omega)) (by omega)) (by omega)) (by omega)) (by omega)), (f27.p (f26.p (f25.p (f24.p (f23.p (f22.p (f21.p (f20.p (f19.p (f18.p (f17.p (f16.p (f15.p (f14.p (f13.p (f12.p (f11.p (f10.p (f9.p (f8.p (f7.p (f6.p (f5.p (f4.p (f3.p t2_7 (by omega)) (by omega)) (by omega)) (by omega)) (by omega)) (by omega)) (by omega)) (by omega)) (by omega)) (by omega)) (by omega)) (by omega)) (by omega)) (by omega)) (by omega)) (by omega)) (by omega)) (by omega)) (by omega)) (by omega)) (by omega)) (by omega)) (by omega)) (by omega)) (by omega)), (f27.s (f26.s (f25.s (f24.s (f23.s (f22.s (f21.s (f20.s (f19.s (f18.s (f17.s (f16.s (f15.s (f14.s (f13.s (f12.s (f11.s (f10.s (f9.s (f8.s (f7.s (f6.s t5 (by omega)) (by omega)) (by omega)) (by omega)) (by omega)) (by omega)) (by omega)) (by omega)) (by omega)) (by omega)) (by omega)) (by omega)) (by omega)) (by omega)) (by omega)) (by omega)) (by omega)) (by omega)) (by omega)) (by omega)) (by omega)) (by omega)), (f27.s (f26.s (f25.s (f24.s (f23.s (f22.s (f21.s (f20.s (f19.s (f18.s (f17.s (f16.s (f15.s (f14.s (f13.s (f12.s (f11.s (f10.s (f9.s (f8.s t7_0 (by omega)) (by omega)) (by omega)) (by omega)) (by omega)) (by omega)) (by omega)) (by omega)) (by omega)) (by omega)) (by omega)) (by omega)) (by omega)) (by omega)) (by omega)) (by omega)) (by omega)) (by omega)) (by omega)) (by omega)), (f27.s (f26.s (f25.s (f24.s (f23.s (f22.s (f21.s (f20.s (f19.s (f18.s (f17.s (f16.s (f15.s (f14.s (f13.s (f12.s (f11.s (f10.s (f9.s (f8.s t7_1 (by omega)) (by omega)) (by omega)) (by omega)) (by omega)) (by omega)) (by omega)) (by omega)) (by omega)) (by omega)) (by omega)) (by omega)) (by omega)) (by omega)) (by omega)) (by omega)) (by omega)) (by omega)) (by omega)) (by omega)), (f27.s (f26.s (f25.s (f24.s (f23.s (f22.s (f21.s (f20.s (f19.s (f18.s (f17.s (f16.s (f15.s (f14.s (f13.s (f12.s (f11.s (f10.s t9 (by omega)) (by omega)) (by omega)) (by omega)) (by omega)) (by omega)) (by omega)) (by omega)) (by omega)) (by omega)) (by omega)) (by omega)) (by omega)) (by omega)) (by omega)) (by omega)) (by omega)) (by omega)), (f27.s (f26.s (f25.s (f24.s (f23.s (f22.s (f21.s (f20.s (f19.s (f18.s (f17.s (f16.s (f15.s (f14.s t13_0 (by omega)) (by omega)) (by omega)) (by omega)) (by omega)) (by omega)) (by omega)) (by omega)) (by omega)) (by omega)) (by omega)) (by omega)) (by omega)) (by omega)), (f27.s (f26.s (f25.s (f24.s (f23.s (f22.s (f21.s (f20.s (f19.s (f18.s (f17.s (f16.s (f15.s (f14.s t13_1 (by omega)) (by omega)) (by omega)) (by omega)) (by omega)) (by omega)) (by omega)) (by omega)) (by omega)) (by omega)) (by omega)) (by omega)) (by omega)) (by omega)), F27⟩
  obtain ⟨M1, e, x0, x1, x2, x3, x4, x5, x6, x7, x8, x9, x10, x11, x12, x13, x14⟩ := key
  rw [e, zbo]
  exact h M1 x0 x1 x2 x3 x4 x5 x6 x7 x8 x9 x10 x11 x12 x13 x14
