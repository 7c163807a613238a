theorem zbo {β α : Type} (b : β) (k : β → Option α) : qv_bo (some b) k = k b := id rfl
theorem zbp {β α : Type} (b : β) (M : qv_Mem) (k : β → qv_Mem → Option α) : qv_bp (some (b, M)) k = k b M := id rfl
theorem zjn {β γ : Type} (k : β) (b : β → γ) : qv_jn k b = b k := id rfl
theorem zgS {α : Type} (id f : Nat) (M : qv_Mem) (k : Int32 → Option α) : qv_gS id f M k = k (M.2.2 id f) := _root_.id rfl
theorem zpS {α : Type} (id f : Nat) (v : Int32) (M : qv_Mem) (k : qv_Mem → Option α) : qv_pS id f v M k = k (qv_upS M id f v) := _root_.id rfl
theorem zi_nle {a b : Nat} (h : b < a) (ha : a < 2147483648) : ¬ nI a ≤ nI b := by
  rw [zi_le (by omega) (by omega)]
  omega
def z_ad (F : Nat → Int64) (o : Nat) (x y : Nat → Int64) : Nat → Int64 := fun j =>
  if j = o then F j + (((x 0 * y 0 - x 1 * y 3) - x 2 * y 2) - x 3 * y 1)
  else if j = o + 1 then F j + (((x 0 * y 1 + x 1 * y 0) - x 2 * y 3) - x 3 * y 2)
  else if j = o + 2 then F j + (((x 0 * y 2 + x 1 * y 1) + x 2 * y 0) - x 3 * y 3)
  else if j = o + 3 then F j + (((x 0 * y 3 + x 1 * y 2) + x 2 * y 1) + x 3 * y 0) else F j
theorem z_addProduct {T : List qv_Ent} {t p p1 p2 : Nat} (hp : qv_rf T t 0 = p) (h1 : p1 ≠ p) (h2 : p2 ≠ p) (M : qv_Mem) (F : Nat → Int64) {o a b : Nat} (ho : o + 4 ≤ 16) (ha : a + 4 ≤ 16) (hb : b + 4 ≤ 16) : f_X7_addProduct T t (nI o) p1 (nI a) p2 (nI b) (zf M p F) = some (zf M p (z_ad F o (fun k => M.2.1 p1 (a + k)) (fun k => M.2.1 p2 (b + k)))) := by
  unfold f_X7_addProduct
  simp (disch := omega) only [hp, zi_lit, nI_add, zi_ldL, zi_stL, zf_at, zf_up, zf_ne h1, zf_ne h2]
  congr 2
  funext j
  simp only [zu, z_ad, Nat.add_zero]
  grind
def z_pc (x y : Nat → Int64) (r : Nat) (F : Nat → Int64) : Nat → Nat → Int64
  | 0 => F
  | c + 1 => z_ad (z_ad (z_pc x y r F c) (8 * r + 4 * c) (fun k => x (8 * r + k)) (fun k => y (4 * c + k))) (8 * r + 4 * c) (fun k => x (8 * r + 4 + k)) (fun k => y (8 + 4 * c + k))
def z_pr (x y : Nat → Int64) (F : Nat → Int64) : Nat → Nat → Int64
  | 0 => F
  | r + 1 => z_pc x y r (z_pr x y F r) 2
theorem z_mp14 {T : List qv_Ent} {t p t1 p1 t2 p2 : Nat} (hp : qv_rf T t 0 = p) (hp1 : qv_rf T t1 0 = p1) (hp2 : qv_rf T t2 0 = p2) (h1 : p1 ≠ p) (h2 : p2 ≠ p) (M : qv_Mem) (F : Nat → Int64) {r : Nat} (hr : r < 2) (k : qv_Mem → Option qv_Mem) : qv_lp2 (b_X7_makeProduct_14 t t1 t2 T (nI r) k) qv_N (nI 0) (zf M p F) = k (zf M p (z_pc (M.2.1 p1) (M.2.1 p2) r F 2)) := by
  refine zfor2 (s := fun c => zf M p (z_pc (M.2.1 p1) (M.2.1 p2) r F c)) (k := k) 0 2 (by omega) (fun c rr h0 hc => ?_) (fun rr => ?_) qv_N (qv_N_gt _ (by decide))
  · unfold b_X7_makeProduct_14
    rw [if_neg (show ¬ (2 : Int32) ≤ nI c from zi_nle (a := 2) (b := c) (by omega) (by omega)), z_placeOf r c, zbo, show (0 : Int32) = nI 0 from rfl, z_placeOf r 0, zbo, z_placeOf 0 c, zbo, hp1, hp2, show (r * 2 + c) * 4 = 8 * r + 4 * c by omega, show (r * 2 + 0) * 4 = 8 * r by omega, show (0 * 2 + c) * 4 = 4 * c by omega, z_addProduct hp h1 h2 M _ (by omega) (by omega) (by omega), zbo, show (1 : Int32) = nI 1 from rfl, z_placeOf r 1, zbo, z_placeOf 1 c, zbo, show (r * 2 + 1) * 4 = 8 * r + 4 by omega, show (1 * 2 + c) * 4 = 8 + 4 * c by omega, z_addProduct hp h1 h2 M _ (by omega) (by omega) (by omega), zbo, nI_add]
    rfl
  · simp (disch := omega) only [b_X7_makeProduct_14, zi_lit, zi_le]
    rw [if_pos (by omega)]
theorem z_mp6 {T : List qv_Ent} {t p t1 p1 t2 p2 : Nat} (hp : qv_rf T t 0 = p) (hp1 : qv_rf T t1 0 = p1) (hp2 : qv_rf T t2 0 = p2) (h1 : p1 ≠ p) (h2 : p2 ≠ p) (M : qv_Mem) (F : Nat → Int64) (k : qv_Mem → Option qv_Mem) : qv_lp2 (b_X7_makeProduct_6 t t1 t2 T k) qv_N (nI 0) (zf M p F) = k (zf M p (z_pr (M.2.1 p1) (M.2.1 p2) F 2)) := by
  refine zfor2 (s := fun r => zf M p (z_pr (M.2.1 p1) (M.2.1 p2) F r)) (k := k) 0 2 (by omega) (fun r rr h0 hr => ?_) (fun rr => ?_) qv_N (qv_N_gt _ (by decide))
  · simp (disch := omega) only [b_X7_makeProduct_6, zi_lit, nI_add, zi_le, zjn, z_mp14 hp hp1 hp2 h1 h2 M _ hr]
    rw [if_neg (by omega)]
    rfl
  · simp (disch := omega) only [b_X7_makeProduct_6, zi_lit, zi_le]
    rw [if_pos (by omega)]
set_option maxHeartbeats 4000000 in
theorem zh_prod {F x y : Nat → Int64} {A B : zq_F} (ha : zh x A) (hb : zh y B) : zh (z_pr x y (z_cl F 16) 2) (zq_pmF A B) := by
  obtain ⟨⟨a0, a1, a2, a3⟩, ⟨a4, a5, a6, a7⟩, ⟨a8, a9, a10, a11⟩, a12, a13, a14, a15⟩ := zh_all ha
  obtain ⟨⟨b0, b1, b2, b3⟩, ⟨b4, b5, b6, b7⟩, ⟨b8, b9, b10, b11⟩, b12, b13, b14, b15⟩ := zh_all hb
  apply zh_mk <;> simp [z_pr, z_pc, z_ad, z_cl, zq_pmF, zq_mul, zq_add, a0, a1, a2, a3, a4, a5, a6, a7, a8, a9, a10, a11, a12, a13, a14, a15, b0, b1, b2, b3, b4, b5, b6, b7, b8, b9, b10, b11, b12, b13, b14, b15]
theorem z_makeProduct {T : List qv_Ent} {t p t1 p1 t2 p2 : Nat} (hp : qv_rf T t 0 = p) (hp1 : qv_rf T t1 0 = p1) (hp2 : qv_rf T t2 0 = p2) (h1 : p1 ≠ p) (h2 : p2 ≠ p) {M : qv_Mem} {A B : zq_T} (ha : zT M t1 p1 A) (hb : zT M t2 p2 B) : ∃ M1, f_X7_makeProduct T t t1 t2 M = some M1 ∧ zT M1 t p (zq_pm A B) ∧ zo M M1 t p := by
  have e : M = zf M p (M.2.1 p) := (zf_self M p).symm
  refine ⟨zf (qv_upS M t 1 (nI (A.2 + B.2))) p (z_pr (M.2.1 p1) (M.2.1 p2) (z_cl (M.2.1 p) 16) 2), ?_, ?_, (zo_S M t p _).tr (zo_zf _ t p _)⟩
  · unfold f_X7_makeProduct
    conv => lhs; rw [e]
    rw [z_clearParts hp]
    simp only [zbo, zjn, zi_lit, z_mp6 hp hp1 hp2 h1 h2, zgS, zpS, zf_s, ha.2, hb.2, nI_add, zf_S]
  · exact zT_zf (zh_prod ha.1 hb.1) (zs_at _ _ _ _)
def z_tu (F : Nat → Int64) (o : Nat) (x : Nat → Int64) : Nat → Int64 := fun j =>
  if j = o then x 0 else if j = o + 1 then -x 3 else if j = o + 2 then -x 2 else if j = o + 3 then -x 1 else F j
def z_tc (x : Nat → Int64) (r : Nat) (F : Nat → Int64) : Nat → Nat → Int64
  | 0 => F
  | c + 1 => z_tu (z_tc x r F c) (8 * r + 4 * c) (fun k => x (8 * c + 4 * r + k))
def z_tr (x : Nat → Int64) (F : Nat → Int64) : Nat → Nat → Int64
  | 0 => F
  | r + 1 => z_tc x r (z_tr x F r) 2
theorem z_mt9 {T : List qv_Ent} {t p t1 p1 : Nat} (hp : qv_rf T t 0 = p) (hp1 : qv_rf T t1 0 = p1) (h1 : p1 ≠ p) (M : qv_Mem) (F : Nat → Int64) {r : Nat} (hr : r < 2) (k : qv_Mem → Option qv_Mem) : qv_lp2 (b_X7_makeTurned_9 t t1 T (nI r) k) qv_N (nI 0) (zf M p F) = k (zf M p (z_tc (M.2.1 p1) r F 2)) := by
  refine zfor2 (s := fun c => zf M p (z_tc (M.2.1 p1) r F c)) (k := k) 0 2 (by omega) (fun c rr h0 hc => ?_) (fun rr => ?_) qv_N (qv_N_gt _ (by decide))
  · unfold b_X7_makeTurned_9
    rw [if_neg (show ¬ (2 : Int32) ≤ nI c from zi_nle (a := 2) (b := c) (by omega) (by omega)), z_placeOf r c, zbo, z_placeOf c r, zbo, hp, hp1, show (r * 2 + c) * 4 = 8 * r + 4 * c by omega, show (c * 2 + r) * 4 = 8 * c + 4 * r by omega]
    generalize hG : z_tc (M.2.1 p1) r F c = Gc
    have e : z_tc (M.2.1 p1) r F (c + 1) = z_tu Gc (8 * r + 4 * c) (fun k => M.2.1 p1 (8 * c + 4 * r + k)) := by rw [← hG]; rfl
    have ho : 8 * r + 4 * c + 4 ≤ 16 := by omega
    have ha : 8 * c + 4 * r + 4 ≤ 16 := by omega
    show _ = rr (nI (c + 1)) (zf M p (z_tc (M.2.1 p1) r F (c + 1)))
    rw [e]
    clear hG e
    generalize 8 * r + 4 * c = o at ho ⊢
    generalize 8 * c + 4 * r = a at ha ⊢
    simp (disch := omega) only [zi_lit, nI_add, zi_ldL, zi_stL, zf_at, zf_up, zf_ne h1]
    congr 2
    funext j
    simp only [zu, z_tu, Nat.add_zero]
    grind
  · simp (disch := omega) only [b_X7_makeTurned_9, zi_lit, zi_le]
    rw [if_pos (by omega)]
theorem z_mt2 {T : List qv_Ent} {t p t1 p1 : Nat} (hp : qv_rf T t 0 = p) (hp1 : qv_rf T t1 0 = p1) (h1 : p1 ≠ p) (M : qv_Mem) (F : Nat → Int64) (k : qv_Mem → Option qv_Mem) : qv_lp2 (b_X7_makeTurned_2 t t1 T k) qv_N (nI 0) (zf M p F) = k (zf M p (z_tr (M.2.1 p1) F 2)) := by
  refine zfor2 (s := fun r => zf M p (z_tr (M.2.1 p1) F r)) (k := k) 0 2 (by omega) (fun r rr h0 hr => ?_) (fun rr => ?_) qv_N (qv_N_gt _ (by decide))
  · simp (disch := omega) only [b_X7_makeTurned_2, zi_lit, nI_add, zi_le, zjn, z_mt9 hp hp1 h1 M _ hr]
    rw [if_neg (by omega)]
    rfl
  · simp (disch := omega) only [b_X7_makeTurned_2, zi_lit, zi_le]
    rw [if_pos (by omega)]
theorem zh_turn {F x : Nat → Int64} {A : zq_F} (ha : zh x A) : zh (z_tr x F 2) (zq_ctF A) := by
  obtain ⟨⟨a0, a1, a2, a3⟩, ⟨a4, a5, a6, a7⟩, ⟨a8, a9, a10, a11⟩, a12, a13, a14, a15⟩ := zh_all ha
  apply zh_mk <;> simp [z_tr, z_tc, z_tu, zq_ctF, zq_cj, a0, a1, a2, a3, a4, a5, a6, a7, a8, a9, a10, a11, a12, a13, a14, a15]
theorem z_makeTurned {T : List qv_Ent} {t p t1 p1 : Nat} (hp : qv_rf T t 0 = p) (hp1 : qv_rf T t1 0 = p1) (h1 : p1 ≠ p) {M : qv_Mem} {A : zq_T} (ha : zT M t1 p1 A) : ∃ M1, f_X7_makeTurned T t t1 M = some M1 ∧ zT M1 t p (zq_ct A) ∧ zo M M1 t p := by
  have e : M = zf M p (M.2.1 p) := (zf_self M p).symm
  refine ⟨zf (qv_upS M t 1 (nI A.2)) p (z_tr (M.2.1 p1) (M.2.1 p) 2), ?_, ?_, (zo_S M t p _).tr (zo_zf _ t p _)⟩
  · unfold f_X7_makeTurned
    conv => lhs; rw [e]
    simp only [zbo, zjn, zi_lit, z_mt2 hp hp1 h1, zgS, zpS, zf_s, ha.2, zf_S]
  · exact zT_zf (zh_turn ha.1) (zs_at _ _ _ _)
theorem z_same_eq {T : List qv_Ent} {t t1 p p1 : Nat} (hp : qv_rf T t 0 = p) (hp1 : qv_rf T t1 0 = p1) (M : qv_Mem) (k : Unit → Option Int32) (h : ∀ j, j < 16 → M.2.1 p j = M.2.1 p1 j) : ∀ (n i f : Nat), i + n = 16 → n < f → qv_lp1 (b_X7_isSame_15 t t1 M T k) f (nI i) = k () := by
  intro n
  induction n with
  | zero =>
    intro i f hi hf
    obtain ⟨f, rfl⟩ : ∃ g, f = g + 1 := ⟨f - 1, by omega⟩
    rw [zN1]
    generalize qv_lp1 (b_X7_isSame_15 t t1 M T k) f = r
    simp (disch := omega) only [b_X7_isSame_15, zi_lit, zi_le]
    rw [if_pos (by omega)]
  | succ n ih =>
    intro i f hi hf
    obtain ⟨f, rfl⟩ : ∃ g, f = g + 1 := ⟨f - 1, by omega⟩
    rw [zN1]
    have := ih (i + 1) f (by omega) (by omega)
    generalize qv_lp1 (b_X7_isSame_15 t t1 M T k) f = r at this ⊢
    simp (disch := omega) only [b_X7_isSame_15, zi_lit, zi_le, hp, hp1, zi_ldL, h i (by omega), nI_add]
    rw [if_neg (by omega), if_pos (show lg_cmp (M.2.1 p1 i) (M.2.1 p1 i) = nI 0 from (lg_cmp_eq _ _).mpr rfl), this]
theorem z_same_ne {T : List qv_Ent} {t t1 p p1 : Nat} (hp : qv_rf T t 0 = p) (hp1 : qv_rf T t1 0 = p1) (M : qv_Mem) (k : Unit → Option Int32) {m : Nat} (hm : m < 16) (h : M.2.1 p m ≠ M.2.1 p1 m) : ∀ (n i f : Nat), i ≤ m → i + n = 16 → n < f → qv_lp1 (b_X7_isSame_15 t t1 M T k) f (nI i) = some 0 := by
  intro n
  induction n with
  | zero => intro i f h1 h2 h3; omega
  | succ n ih =>
    intro i f h1 hi hf
    obtain ⟨f, rfl⟩ : ∃ g, f = g + 1 := ⟨f - 1, by omega⟩
    rw [zN1]
    by_cases him : i = m
    · subst him
      generalize qv_lp1 (b_X7_isSame_15 t t1 M T k) f = r
      simp (disch := omega) only [b_X7_isSame_15, zi_lit, zi_le, hp, hp1, zi_ldL]
      rw [if_neg (by omega), if_neg (show ¬ lg_cmp (M.2.1 p i) (M.2.1 p1 i) = nI 0 from fun e => h ((lg_cmp_eq _ _).mp e))]
    · have := ih (i + 1) f (by omega) (by omega) (by omega)
      generalize qv_lp1 (b_X7_isSame_15 t t1 M T k) f = r at this ⊢
      simp (disch := omega) only [b_X7_isSame_15, zi_lit, zi_le, hp, hp1, zi_ldL, nI_add]
      rw [if_neg (by omega), this]
      simp only [← zi_lit]
      split <;> rfl
theorem zc_ext {A B : zq_F} (h : ∀ j, j < 16 → zc A j = zc B j) : A = B := by
  obtain ⟨⟨a, b, c, d⟩, ⟨e, f, k, l⟩, ⟨i, j, m, o⟩, ⟨p, q, r, s⟩⟩ := A
  obtain ⟨⟨a', b', c', d'⟩, ⟨e', f', k', l'⟩, ⟨i', j', m', o'⟩, ⟨p', q', r', s'⟩⟩ := B
  have h0 := h 0 (by omega)
  have h1 := h 1 (by omega)
  have h2 := h 2 (by omega)
  have h3 := h 3 (by omega)
  have h4 := h 4 (by omega)
  have h5 := h 5 (by omega)
  have h6 := h 6 (by omega)
  have h7 := h 7 (by omega)
  have h8 := h 8 (by omega)
  have h9 := h 9 (by omega)
  have h10 := h 10 (by omega)
  have h11 := h 11 (by omega)
  have h12 := h 12 (by omega)
  have h13 := h 13 (by omega)
  have h14 := h 14 (by omega)
  have h15 := h 15 (by omega)
  simp [zc, zk, zn] at *
  simp [*]
theorem zb_c {A : zq_F} {n : Int} (h : zb A n) {j : Nat} (hj : j < 16) : -n ≤ zc A j ∧ zc A j ≤ n := by
  obtain ⟨h1, h2, h3, h4⟩ := h (j / 4) (by omega)
  unfold zc zn
  split
  · exact h1
  · split
    · exact h2
    · split
      · exact h3
      · exact h4
theorem z_isSame {T : List qv_Ent} {t p t1 p1 : Nat} (hp : qv_rf T t 0 = p) (hp1 : qv_rf T t1 0 = p1) {M : qv_Mem} {A B : zq_T} (ha : zT M t p A) (hb : zT M t1 p1 B) (ba : zb A.1 2305843009213693952) (bb : zb B.1 2305843009213693952) (ea : A.2 < 2147483648) (eb : B.2 < 2147483648) : (A = B → f_X7_isSame T t t1 M = some 1) ∧ (A ≠ B → f_X7_isSame T t t1 M = some 0) := by
  constructor
  · intro h
    subst h
    unfold f_X7_isSame
    simp only [qv_gS, ha.2, hb.2, if_true, qv_jn]
    rw [zi_0]
    exact z_same_eq hp hp1 M (fun _ => some 1) (fun j hj => by rw [ha.1 j hj, hb.1 j hj]) 16 0 qv_N rfl (qv_N_gt _ (by decide))
  · intro h
    unfold f_X7_isSame
    simp only [qv_gS, ha.2, hb.2, zi_eq ea eb, qv_jn]
    by_cases he : A.2 = B.2
    · rw [if_pos he]
      have hF : ∃ m, m < 16 ∧ zc A.1 m ≠ zc B.1 m := by
        apply Classical.byContradiction
        intro hn
        apply h
        refine Prod.ext (zc_ext fun j hj => ?_) he
        apply Classical.byContradiction
        intro hh
        exact hn ⟨j, hj, hh⟩
      obtain ⟨m, hm, hd⟩ := hF
      have hne : M.2.1 p m ≠ M.2.1 p1 m := by
        rw [ha.1 m hm, hb.1 m hm]
        intro e
        have b1 := zb_c ba hm
        have b2 := zb_c bb hm
        exact hd ((ze_inj (by omega) (by omega) (by omega) (by omega)).mp e)
      rw [zi_0]
      exact z_same_ne hp hp1 M (fun _ => some 1) hm hne 16 0 qv_N (by omega) rfl (qv_N_gt _ (by decide))
    · rw [if_neg he]
