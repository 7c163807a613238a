def qv_M0 : qv_Mem := (fun _ _ => 0, fun _ _ => 0, fun _ _ => 0)
noncomputable def f_start (xs : Nat → Int32) (Ls : Nat) : Option Unit :=
 qv_al 0 qv_M0 (fun Ma => qv_bo (g_X9 [] 0 Ma) (fun Mb => qv_al 106 Mb (fun Mc => qv_bo (g_X10 ([] ++ K_X9 0) 106 Mc) (fun Md => f_law xs Ls Md))))
theorem hx0_ok : qv_is (0 + 4) qv_TT 9 14 0 := qv_isb_is _ _ _ _ _ (by decide +kernel)
theorem hm0_ok : qv_is (0 + 1) qv_TT 10 29 106 := qv_isb_is _ _ _ _ _ (by decide +kernel)
set_option maxHeartbeats 8000000 in
set_option maxRecDepth 100000 in
/-- THE LAW, from its entry, out of the pure statement -/
theorem start_walk {p : Program} {e : Env} {s : State} {m : MethodId} {below : List Frame} {meth : Method} {c : Code} (l : Launch) {b L : Nat} {xs : Nat → Int32} (hL : L ≤ 2560) (hpure : f_start xs L = some ()) (C0 : lw_At p s m meth c b L xs) : W p l e room_1 s m #[Value.ref b] below meth c s.heap [] 0 0 (lw_Z below #[Value.ref b] s) (entryFrame m ([Value.ref b] : List Value).toArray 4) := by
  obtain ⟨hx, hb, hr, hml, hown, hts, hX, hbl, hlocks, hgv⟩ := id C0
  have hs := flat_of_before _ hgv
  obtain ⟨c0, iS0, hKn0⟩ := u_known (C := RX0) (T := TX0) (N := 3) (n := 3) hts (fun w h => qv_gsub (gl_X0 w h)) (hts _ (qv_gsub it_X0))
  obtain ⟨c1, iS1, hKn1⟩ := u_known (C := RX1) (T := TX1) (N := 6) (n := 6) hts (fun w h => qv_gsub (gl_X1 w h)) (hts _ (qv_gsub it_X1))
  obtain ⟨c2, iS2, hKn2⟩ := u_known (C := RX2) (T := TX2) (N := 10) (n := 10) hts (fun w h => qv_gsub (gl_X2 w h)) (hts _ (qv_gsub it_X2))
  obtain ⟨c3, iS3, hKn3⟩ := u_known (C := RX3) (T := TX3) (N := 4) (n := 4) hts (fun w h => qv_gsub (gl_X3 w h)) (hts _ (qv_gsub it_X3))
  obtain ⟨c4, iS4, hKn4⟩ := u_known (C := RX4) (T := TX4) (N := 3) (n := 3) hts (fun w h => qv_gsub (gl_X4 w h)) (hts _ (qv_gsub it_X4))
  obtain ⟨c5, iS5, hKn5⟩ := u_known (C := RX5) (T := TX5) (N := 7) (n := 7) hts (fun w h => qv_gsub (gl_X5 w h)) (hts _ (qv_gsub it_X5))
  obtain ⟨c6, iS6, hKn6⟩ := u_known (C := RX6) (T := TX6) (N := 2) (n := 2) hts (fun w h => qv_gsub (gl_X6 w h)) (hts _ (qv_gsub it_X6))
  obtain ⟨c7, iS7, hKn7⟩ := u_known (C := RX7) (T := TX7) (N := 2) (n := 2) hts (fun w h => qv_gsub (gl_X7 w h)) (hts _ (qv_gsub it_X7))
  obtain ⟨c8, iS8, hKn8⟩ := u_known (C := RX8) (T := TX8) (N := 2) (n := 2) hts (fun w h => qv_gsub (gl_X8 w h)) (hts _ (qv_gsub it_X8))
  obtain ⟨c9, iS9, hKn9⟩ := u_known (C := RX9) (T := TX9) (N := 14) (n := 14) hts (fun w h => qv_gsub (gl_X9 w h)) (hts _ (qv_gsub it_X9))
  obtain ⟨c10, iS10, hKn10⟩ := u_known (C := RX10) (T := TX10) (N := 29) (n := 29) hts (fun w h => qv_gsub (gl_X10 w h)) (hts _ (qv_gsub it_X10))
  obtain ⟨dC, dI, hKc⟩ : ∃ (dC : Nat → ClassId) (dI : Nat → Nat → Nat), ∀ (k : Nat) (q : vw_C), vwCl[k]? = some q → u_Kn s q.1 q.2.1 q.2.2 (dC k) (dI k) := by
    refine ⟨fun k => if k = 0 then c0 else if k = 1 then c1 else if k = 2 then c2 else if k = 3 then c3 else if k = 4 then c4 else if k = 5 then c5 else if k = 6 then c6 else if k = 7 then c7 else if k = 8 then c8 else if k = 9 then c9 else c10, fun k => if k = 0 then iS0 else if k = 1 then iS1 else if k = 2 then iS2 else if k = 3 then iS3 else if k = 4 then iS4 else if k = 5 then iS5 else if k = 6 then iS6 else if k = 7 then iS7 else if k = 8 then iS8 else if k = 9 then iS9 else iS10, ?_⟩
    intro k q hq
    match k, hq with
    | 0, hq => cases hq; exact hKn0
    | 1, hq => cases hq; exact hKn1
    | 2, hq => cases hq; exact hKn2
    | 3, hq => cases hq; exact hKn3
    | 4, hq => cases hq; exact hKn4
    | 5, hq => cases hq; exact hKn5
    | 6, hq => cases hq; exact hKn6
    | 7, hq => cases hq; exact hKn7
    | 8, hq => cases hq; exact hKn8
    | 9, hq => cases hq; exact hKn9
    | 10, hq => cases hq; exact hKn10
    | k + 11, hq => simp [vwCl] at hq
  obtain ⟨cI, kI, cmI, i1, i2, i3⟩ := Cond.arrayClass_spec (hts _ (qv_gsub ac_int))
  obtain ⟨cJ, kJ, cmJ, j1, j2, j3⟩ := Cond.arrayClass_spec (hts _ (qv_gsub ac_long))
  obtain ⟨cmT, cT, kT, t1, -, t2, t3, t4⟩ := Cond.arrayOver_spec (hts _ ao_0)
  obtain ⟨cmR, cR, kR, r1, -, r2, r3, r4⟩ := Cond.arrayOver_spec (hts _ ao_1)
  have hA : ∀ a : Nat, a < s.heap.size → ¬ s.heap.size ≤ a := fun a h => Nat.not_le.mpr h
  obtain ⟨pg, hpg, hT⟩ := va_Tof (args := #[Value.ref b]) (s := s) (tm := .static "RootGates$Cliffords" "PLAIN_GATES" "[I") (ty := .int) (N := 5) (f := fun j => .int (qv_pg j)) (A := fun q => s.heap.size ≤ q) (by decide) (hs _ (by decide +kernel)) (va_eqt (hs (.eq (.length (.static "RootGates$Cliffords" "PLAIN_GATES" "[I")) (.int 5)) (by decide +kernel))) (fun j hj => by
    match j, hj with
    | 0, _ => exact va_eqt (z := 0) (hs _ (by decide +kernel))
    | 1, _ => exact va_eqt (z := 2) (hs _ (by decide +kernel))
    | 2, _ => exact va_eqt (z := 3) (hs _ (by decide +kernel))
    | 3, _ => exact va_eqt (z := 4) (hs _ (by decide +kernel))
    | 4, _ => exact va_eqt (z := 5) (hs _ (by decide +kernel))
    | j + 5, hj => exact absurd hj (by omega)) hA
  have hZ := va_Zof (A := fun q => s.heap.size ≤ q) (hts _ ls_PG) (hts _ in_X2) hpg hA
  let X : qv_X := ((dC, dI), fun c => if c = 20 then cI else if c = 21 then cJ else if c = 37 then cT else cR, pg, s.heap.size)
  have hK : qv_Kd X s s.heap := by
    refine ⟨⟨hKc, fun k q hk => ?_⟩, hZ, hT, fun w hw => ?_, hts _ ao_0, hts _ ao_1⟩
    · match k, hk with
      | 0, hk => cases hk; exact ⟨fun n z => ⟨fun k h => (by cases h), kI, i2, cmI, i3⟩, i1⟩
      | 1, hk => cases hk; exact ⟨fun n z => ⟨fun k h => (by cases h), kJ, j2, cmJ, j3⟩, j1⟩
      | 2, hk => cases hk; exact ⟨fun n z => ⟨fun k h => (by cases h), kT, t2, cmT, t3⟩, kT, cmT, t2, t3, t1, t4⟩
      | 3, hk => cases hk; exact ⟨fun n z => ⟨fun k h => (by cases h), kR, r2, cmR, r3⟩, kR, cmR, r2, r3, r1, r4⟩
      | k + 4, hk => simp [qv_tys] at hk
    · exact va_Nw.of (by obtain ⟨_, _, _, _, rfl⟩ := qv_nst_form w hw; rfl) (hts w (nst_in w hw))
  let G : qv_G := (p, l, e, room_1, s, m, #[Value.ref b], below, meth, c)
  have g : qv_ok G X cL_law RL 4 := ⟨hx, hb, hml, hown, fun w hw => hts w (qv_gsub hw), hK, Nat.le_refl _, hlocks, (by decide : 1 ≤ room_1.frames), (by decide : 64 ≤ room_1.locals)⟩
  have hRm : gR G = room_1 := rfl
  have hl := lv_entry ([.ref b]) (n := 4) (Nat.le_of_ble_eq_true rfl)
  rw [lg_entry_eq]
  have hret : ∀ (pc : Nat) (lv : List (Nat × Value)) (M : qv_Mem), decode cL_law pc = .ok (.ireturn, 1) → qv_V G X 4 (fun (_ : Unit) => lw_Z (gb G) (ga G) (gs G)) qv_TT (128, 13826) pc lv [.int 1] M (some ()) := by
    intro pc lv M hd a ha ls H locs h1 h2 h3
    refine va_forget (fun q hq => h3.2.2 q hq) ?_
    refine W.widen (k := 600000) (n := 7302250) (by decide) (by decide) ?_
    exact lw_ret hx hb hr hlocks hd
  have main : qv_V G X 4 (fun (_ : Unit) => lw_Z (gb G) (ga G) (gs G)) [] (0, 0) 0 [(0, .ref b)] [] qv_M0 (f_start xs L) := by
    unfold f_start
    refine qv_new (pc := 0) (n := 14) (id := 0) g nw_RL_7 rfl rfl (qv_cL hRm (by decide) (by decide)) dL_law_0 (fun Ma => ?_)
    refine qv_dup (pc := 3) g dL_law_3 rfl ?_
    refine qv_ci (pc := 4) (T2 := K_X9 0) g (c_X9_init (gl G) X 0 [] 0 rfl Ma) rfl (qv_RL hRm (by decide) (by decide)) (qv_cL hRm (by decide) (by decide)) mw_X9_init lk_RL_9 im_X9_init rfl pd_X9_init (Nat.le_of_ble_eq_true rfl) dL_law_4 (fun Mb => ?_)
    refine qv_astore_n (pc := 7) (lv1 := [(1, .ref (X.2.2.2 + 0)), (0, .ref b)]) g dL_law_7 rfl (by decide) rfl ?_
    refine qv_new (pc := 8) (n := 29) (id := 106) g nw_RL_10 rfl rfl (qv_cL hRm (by decide) (by decide)) dL_law_8 (fun Mc => ?_)
    refine qv_dup (pc := 11) g dL_law_11 rfl ?_
    refine qv_ci (pc := 12) (T2 := qv_TT) g (c_X10_init (gl G) X 0 ([] ++ K_X9 0) 106 rfl Mc) rfl (qv_RL hRm (by decide) (by decide)) (qv_cL hRm (by decide) (by decide)) mw_X10_init lk_RL_12 im_X10_init rfl pd_X10_init (Nat.le_of_ble_eq_true rfl) dL_law_12 (fun Md => ?_)
    refine qv_astore_n (pc := 15) (lv1 := [(2, .ref (X.2.2.2 + 106)), (1, .ref (X.2.2.2 + 0)), (0, .ref b)]) g dL_law_15 rfl (by decide) rfl ?_
    refine qv_iconst (v := 0) (pc := 16) g dL_law_16 (by decide) ?_
    refine qv_istore_n (pc := 17) (lv1 := [(3, .int 0), (2, .ref (X.2.2.2 + 106)), (1, .ref (X.2.2.2 + 0)), (0, .ref b)]) g dL_law_17 rfl (by decide) rfl ?_
    refine qv_lv [3, 2, 1, 0] rfl ?_
    exact c_law G X hRm g hX hbl (Nat.not_le.mpr hbl) hret hx0_ok hm0_ok Md
  exact main () hpure _ s.heap [] hl ⟨rfl, fun id e h => by simp at h⟩ va_S.rf

