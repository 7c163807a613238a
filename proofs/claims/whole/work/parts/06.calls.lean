/-! Ends of methods, contracts, calls. -/
def qv_eI (M : qv_Mem) (v : Int32) : qv_Res := (some (.int v), M)
def qv_eL (M : qv_Mem) (v : Int64) : qv_Res := (some (.long v), M)
def qv_eIM (a : Int32 × qv_Mem) : qv_Res := (some (.int a.1), a.2)
def qv_eLM (a : Int64 × qv_Mem) : qv_Res := (some (.long a.1), a.2)
def qv_eV (M : qv_Mem) : qv_Res := (none, M)
def qv_Qo (X : qv_X) (T : List qv_Ent) (r : qv_Res) : Array Value → State → Outcome → State → Prop := fun _ st oc t => oc = .returned r.1 ∧ qv_Wd X T r.2 t ∧ va_F (qv_A X) st t
def qv_QM {α : Type} (G : qv_G) (X : qv_X) (T : List qv_Ent) (emb : α → qv_Res) (cs : Nat × Nat) : α → State → Prop := fun a => MQ (gb G) (qv_Qo X T (emb a)) (ga G) (gs G) cs.1 cs.2 (qv_A X)
def qv_rm (d : Nat) : Room := { frames := d + 1, cells := 0, slots := 0, locals := 64 * (d + 1) }
def qv_Ok {α : Type} (l : Launch) (X : qv_X) (y : MethodName) (bytes : ByteArray) (maxL : Nat) (ret : Option FieldType) (d : Nat) (T : List qv_Ent) (M : qv_Mem) (av : List Value) (emb : α → qv_Res) (o : Option α) : Prop :=
  ∀ a, o = some a → Met l y (Cond.code y bytes maxL ret :: qv_gt) (qv_rm d) (va_Pc av (qv_Wd X T M)) (qv_Qo X T (emb a)) 0 0 (qv_A X)
theorem qv_mk {α : Type} {l : Launch} {X : qv_X} {y : MethodName} {bytes : ByteArray} {maxL : Nat} {ret : Option FieldType} {d : Nat} {T : List qv_Ent} {M : qv_Mem} {av : List Value} {emb : α → qv_Res} {o : Option α} (hy : plainName y.cls = true) (hle : (lg_sl av).length ≤ maxL)
    (body : ∀ G : qv_G, gl G = l → gR G = qv_rm d → qv_ok G X bytes y.cls maxL → (gM G).sig.returnType = ret → qv_V G X maxL (qv_QM G X T emb (0, 0)) T (0, 0) 0 (lv_args 0 av) [] M o) : qv_Ok l X y bytes maxL ret d T M av emb o := by
  intro a ha
  refine Met.ofW (cc := bytes) (maxL := maxL) (ret := ret) hy rfl ?_
  intro p e s m args below meth c s₁ B hml hv
  obtain ⟨rfl, hW, hK⟩ := hv
  have hts := atoms_spec (ws := Cond.code y bytes maxL ret :: qv_gt) B.pre
  rw [lg_entry_eq]
  have hl := lv_entry av (n := maxL) hle
  exact body (p, l, e, qv_rm d, s, m, av.toArray, below, meth, c) rfl rfl ⟨B.exec, B.bytes, hml, findClass_of_methodNamed B.named, fun w hw => hts w (List.mem_cons_of_mem _ hw), hK, by show _ ≤ s.heap.size; rw [hW.1]; exact Nat.le_add_right _ _, B.notSynchronized, by show 1 ≤ d + 1; omega, by show 64 ≤ 64 * (d + 1); omega⟩ B.returns a ha _ s.heap [] hl hW va_S.rf
section QE
variable {α : Type} {G : qv_G} {X : qv_X} {nL : Nat} {T : List qv_Ent} {cs : Nat × Nat} {pc : Nat} {lv : List (Nat × Value)} {st : List Value} {M : qv_Mem} {cc : ByteArray} {own : String} {emb : α → qv_Res} {b : α}
theorem qv_end (g : qv_ok G X cc own nL) {H : Heap} {locs : List Loc} (h2 : qv_Hp X T M H) (h3 : va_S (qv_A X) (gs G).heap H locs) {r : Option Value} (he : emb b = (r, M)) (t : State) (ht : t.heap = H) (hW : (gs G).WarmedH t.vm) : qv_Qo X T (emb b) (ga G) (gs G) (.returned r) t :=
  ⟨by rw [he], ⟨by rw [he, ht]; exact h2, g.2.2.2.2.2.1.go hW (fun q h1 h4 => by rw [ht]; exact h3.2.1 q h1 h4)⟩, h3.F ht⟩
theorem qv_iret (g : qv_ok G X cc own nL) {v : Int32} (hr : (gM G).sig.returnType = some .int) (he : emb b = (some (.int v), M)) (hd : decode cc pc = .ok (.ireturn, 1)) : qv_V G X nL (qv_QM G X T emb cs) T cs pc lv [.int v] M (some b) := by
  intro a ha ls H locs h1 h2 h3
  cases ha
  exact W.iret g.1 g.2.1 hr (qv_end g h2 h3 he) h3.2.2 hd g.2.2.2.2.2.2.2.1
theorem qv_zret (g : qv_ok G X cc own nL) {v : Int32} (hr : (gM G).sig.returnType = some .boolean) (hv : narrow .boolean (.int v) = .int v) (he : emb b = (some (.int v), M)) (hd : decode cc pc = .ok (.ireturn, 1)) : qv_V G X nL (qv_QM G X T emb cs) T cs pc lv [.int v] M (some b) := by
  intro a ha ls H locs h1 h2 h3
  cases ha
  exact W.zret g.1 g.2.1 hr hv (qv_end g h2 h3 he) h3.2.2 hd g.2.2.2.2.2.2.2.1
theorem qv_zretg (g : qv_ok G X cc own nL) {v : Int32} (hr : (gM G).sig.returnType = some .boolean) (he : emb b = (some (.int v), M)) (hd : decode cc pc = .ok (.ireturn, 1)) : qv_V G X nL (qv_QM G X T emb cs) T cs pc lv [.int v] M (qv_gd (qv_01 v) (some b)) := by
  unfold qv_gd
  refine qv_ite _ (fun hz => ?_) (fun _ => qv_none)
  have hv : v = 0 ∨ v = 1 := by simpa [qv_01] using hz
  exact qv_zret g hr (by rcases hv with rfl | rfl <;> rfl) he hd
theorem qv_lret (g : qv_ok G X cc own nL) {v : Int64} (hr : (gM G).sig.returnType = some .long) (he : emb b = (some (.long v), M)) (hd : decode cc pc = .ok (.lreturn, 1)) : qv_V G X nL (qv_QM G X T emb cs) T cs pc lv [.long v] M (some b) := by
  intro a ha ls H locs h1 h2 h3
  cases ha
  exact W.lret g.1 g.2.1 hr (qv_end g h2 h3 he) h3.2.2 hd g.2.2.2.2.2.2.2.1
theorem qv_vret (g : qv_ok G X cc own nL) (hr : (gM G).sig.returnType = none) (he : emb b = (none, M)) (hd : decode cc pc = .ok (.return_, 1)) : qv_V G X nL (qv_QM G X T emb cs) T cs pc lv [] M (some b) := by
  intro a ha ls H locs h1 h2 h3
  cases ha
  exact W.vret g.1 g.2.1 hr (qv_end g h2 h3 he) h3.2.2 hd g.2.2.2.2.2.2.2.1
end QE
def qv_Cl {β : Type} (G : qv_G) (X : qv_X) (nL : Nat) (T : List qv_Ent) (cs : Nat × Nat) (pc : Nat) (stk rest : List Value) (M : qv_Mem) (emb : β → qv_Res) (o1 : Option β) : Prop :=
  ∀ b, o1 = some b → ∀ (ls : Array Slot) (H : Heap) (locs : List Loc), ls.size = nL → qv_Hp X T M H → va_S (qv_A X) (gs G).heap H locs → ∃ av, va_Run (gp G) (gl G) (ge G) (gR G) (gs G) (gm G) (ga G) (gb G) (gM G) (gc G) H locs cs.1 cs.2 0 0 (F0 (gm G) pc ls stk) rest (qv_Qo X T (emb b) av) (qv_A X)
def qv_mw (y : MethodName) (bytes : ByteArray) (maxL : Nat) (ret : Option FieldType) : Prop := Cond.code y bytes maxL ret ∈ qv_gt ∧ Cond.initialized y.cls ∈ qv_gt ∧ y.cls ≠ "java/lang/invoke/MethodHandle" ∧ y.cls ≠ "java/lang/invoke/VarHandle"
theorem qv_goodc {y : MethodName} {bytes : ByteArray} {maxL : Nat} {ret : Option FieldType} (h : qv_mw y bytes maxL ret) : GoodIn qv_gt (Cond.code y bytes maxL ret :: qv_gt) := fun w hw => by
  rcases List.mem_cons.mp hw with e | e
  · rw [e]; exact qv_good _ h.1
  · exact qv_good _ e
section QC
variable {α : Type} {G : qv_G} {X : qv_X} {nL : Nat} {Q : α → State → Prop} {T : List qv_Ent} {cs : Nat × Nat} {pc : Nat} {lv : List (Nat × Value)} {st : List Value} {M : qv_Mem} {o : Option α} {cc : ByteArray} {own : String}
theorem qv_run {H : Heap} {locs : List Loc} {ls : Array Slot} {stk rest : List Value} {r : qv_Res} {av : Array Value} {Qw : State → Prop} (hr : va_Run (gp G) (gl G) (ge G) (gR G) (gs G) (gm G) (ga G) (gb G) (gM G) (gc G) H locs cs.1 cs.2 0 0 (F0 (gm G) pc ls stk) rest (qv_Qo X T r av) (qv_A X)) (hS : va_S (qv_A X) (gs G).heap H locs)
    (kk : ∀ (H1 : Heap) (locs1 : List Loc), qv_Hp X T r.2 H1 → va_S (qv_A X) (gs G).heap H1 locs1 → W (gp G) (gl G) (ge G) (gR G) (gs G) (gm G) (ga G) (gb G) (gM G) (gc G) H1 locs1 cs.1 cs.2 Qw (F0 (gm G) (pc + 3) ls (r.1.toList ++ rest))) : W (gp G) (gl G) (ge G) (gR G) (gs G) (gm G) (ga G) (gb G) (gM G) (gc G) H locs cs.1 cs.2 Qw (F0 (gm G) pc ls stk) := by
  intro T0 hT X0
  obtain ⟨v, st₀, t, T', L, h0, X', hL, e1, e2, ⟨hv, hb, hz, hk⟩, st⟩ := hr T0 hT X0
  cases hv
  rw [h0] at hz hk
  obtain ⟨t2, a1, b1⟩ := kk T'.heap (locs ++ L) (by rw [e1]; exact hb.1) ⟨Nat.le_trans hS.1 (by rw [e1]; exact hz), fun q h1 h2 => by rw [e1, hk q (Nat.lt_of_lt_of_le h1 hS.1) h2]; exact hS.2.1 q h1 h2, fun q hq => by
      rcases List.mem_append.mp hq with h | h
      · exact hS.2.2 q h
      · exact hL q h⟩ T' rfl X'
  exact ⟨t2, st t2 a1, b1⟩
theorem qv_blind (av : List Value) (hW : State → Prop) (h : ∀ (U : State) (g : JFrame) (mk : MethodId) (a : Array Value), hW U → hW (U.calling g mk a)) : FrameBlind (va_Pc av hW) := fun a U g mk q => ⟨q.1, h U g mk a q.2⟩
theorem qv_Wd.blind {U : State} (g : JFrame) (mk : MethodId) (a : Array Value) (h : qv_Wd X T M U) : qv_Wd X T M (U.calling g mk a) := by
  obtain ⟨h1, k1, k2, k3, k4, k5, k6⟩ := h
  exact ⟨h1, va_K.moved (u := U) (U := U.calling g mk a) (Vm.Alike.refl U.vm) k1, va_Z.moved (u := U) (U := U.calling g mk a) (Vm.Alike.refl U.vm) k2, va_T.moved (u := U) (U := U.calling g mk a) (Vm.Alike.refl U.vm) k3, fun w hw => va_Nw.same (by obtain ⟨_, _, _, _, rfl⟩ := qv_nst_form w hw; rfl) (u := U) (U := U.calling g mk a) rfl (k4 w hw), va_AO.moved (u := U) (U := U.calling g mk a) (Vm.Alike.refl U.vm) k5, va_AO.moved (u := U) (U := U.calling g mk a) (Vm.Alike.refl U.vm) k6⟩
theorem qv_pre (g : qv_ok G X cc own nL) {H : Heap} {locs : List Loc} (h2 : qv_Hp X T M H) (h3 : va_S (qv_A X) (gs G).heap H locs) (av : List Value) (U : State) (hU : U.heap = H) (hW : (gs G).WarmedH U.vm) : va_Pc av (qv_Wd X T M) av.toArray U :=
  ⟨rfl, by rw [hU]; exact h2, g.2.2.2.2.2.1.go hW (fun q h1 h4 => by rw [hU]; exact h3.2.1 q h1 h4)⟩
/-- a method of an object -/
theorem qv_cv (g : qv_ok G X cc own nL) {β : Type} {emb : β → qv_Res} {o1 : Option β} {y : MethodName} {bytes : ByteArray} {maxL d index id ci n s N : Nat} {ret : Option FieldType} {As stk rest : List Value} {TT : u_T} (hM : qv_Ok (gl G) X y bytes maxL ret d T M (.ref (X.2.2.2 + id) :: As) emb o1) (hR : d + 2 ≤ (gR G).frames ∧ 19 + maxL + 64 * (d + 1) ≤ (gR G).locals) (hc : cs.1 ≤ (gR G).cells ∧ cs.2 ≤ (gR G).slots) (hw : qv_mw y bytes maxL ret) (hl : Cond.methodLink own index y ∈ qv_gt) (hin : Cond.instanceMethod y ∈ qv_gt) (hsel : Cond.selects y.cls y y ∈ qv_gt) (hci : ci < 20) (hcl : vwCl[ci]? = some (y.cls, TT, N)) (hi : qv_is n T ci s id) (hn : (parseMethodDescriptor y.desc).map (fun d => d.parameters.length) = some As.length) (hst : stk = As.reverse ++ .ref (X.2.2.2 + id) :: rest) (hrs : (rest.map fun v => v.category).sum ≤ 8) (hd : decode cc pc = .ok (.invokevirtual index, 3)) : qv_Cl G X nL T cs pc stk rest M emb o1 := by
  intro b hb ls H locs hls h2 h3
  have hts := g.2.2.2.2.1
  obtain ⟨fs, he⟩ := hi.sh
  have hP := h2.one he
  rw [qv_cel_o X hci] at hP
  refine ⟨_, va_runV (As := As) (rest := rest) (Ts := qv_gt) (own := own) (C := y.cls) ⟨g.1, g.2.1, g.2.2.1, g.2.2.2.1, hts⟩ (hM b hb) ⟨callB_of As.length hts (qv_goodc hw) rfl rfl rfl (hts _ hw.2.1) (hts _ hl) ⟨hw.2.2.1, hw.2.2.2, hn⟩ ⟨hR.1, by show 8 + (maxL + 11) + 64 * (d + 1) ≤ _; omega⟩, hts _ hin, hts _ hsel⟩ ⟨qv_blind _ _ (fun U g mk a h => h.blind g mk a), va_recv g.2.2.2.2.2.1.1 hP hcl (q0 := 0) rfl, fun U hU hW => qv_pre g h2 h3 _ U hU hW⟩ rfl rfl hls hst (lv_room hrs) hd ⟨hc.1, hc.2⟩⟩
/-- a static method -/
theorem qv_cs (g : qv_ok G X cc own nL) {β : Type} {emb : β → qv_Res} {o1 : Option β} {y : MethodName} {bytes : ByteArray} {maxL d index : Nat} {ret : Option FieldType} {As stk rest : List Value} (hM : qv_Ok (gl G) X y bytes maxL ret d T M As emb o1) (hR : d + 2 ≤ (gR G).frames ∧ 19 + maxL + 64 * (d + 1) ≤ (gR G).locals) (hc : cs.1 ≤ (gR G).cells ∧ cs.2 ≤ (gR G).slots) (hw : qv_mw y bytes maxL ret) (hl : Cond.methodLink own index y ∈ qv_gt) (hin : Cond.static y ∈ qv_gt) (hn : (parseMethodDescriptor y.desc).map (fun d => d.parameters.length) = some As.length) (hst : stk = As.reverse ++ rest) (hrs : (rest.map fun v => v.category).sum ≤ 8) (hd : decode cc pc = .ok (.invokestatic index, 3)) : qv_Cl G X nL T cs pc stk rest M emb o1 := by
  intro b hb ls H locs hls h2 h3
  have hts := g.2.2.2.2.1
  refine ⟨_, va_runS (As := As) (rest := rest) (Ts := qv_gt) (own := own) ⟨g.1, g.2.1, g.2.2.1, g.2.2.2.1, hts⟩ (hM b hb) ⟨callB_of As.length hts (qv_goodc hw) rfl rfl rfl (hts _ hw.2.1) (hts _ hl) ⟨hw.2.2.1, hw.2.2.2, hn⟩ ⟨hR.1, by show 8 + (maxL + 11) + 64 * (d + 1) ≤ _; omega⟩, hts _ hin⟩ ⟨qv_blind _ _ (fun U g mk a h => h.blind g mk a), fun U hU hW => qv_pre g h2 h3 _ U hU hW⟩ rfl rfl hls hst (lv_room hrs) hd ⟨hc.1, hc.2⟩⟩
/-- a nest mate's static method -/
theorem qv_cn (g : qv_ok G X cc own nL) {β : Type} {emb : β → qv_Res} {o1 : Option β} {y : MethodName} {bytes : ByteArray} {maxL d index : Nat} {ret : Option FieldType} {As stk rest : List Value} {host : String} (hM : qv_Ok (gl G) X y bytes maxL ret d T M As emb o1) (hR : d + 2 ≤ (gR G).frames ∧ 19 + maxL + 64 * (d + 1) ≤ (gR G).locals) (hc : cs.1 ≤ (gR G).cells ∧ cs.2 ≤ (gR G).slots) (hw : qv_mw y bytes maxL ret) (hl : Cond.methodLinkNest own index y host ∈ qv_nst) (hin : Cond.static y ∈ qv_gt) (hn : (parseMethodDescriptor y.desc).map (fun d => d.parameters.length) = some As.length) (hst : stk = As.reverse ++ rest) (hrs : (rest.map fun v => v.category).sum ≤ 8) (hd : decode cc pc = .ok (.invokestatic index, 3)) : qv_Cl G X nL T cs pc stk rest M emb o1 := by
  intro b hb ls H locs hls h2 h3
  have hts := g.2.2.2.2.1
  refine ⟨_, va_runSN (As := As) (rest := rest) (Ts := qv_gt) (own := own) ⟨g.1, g.2.1, g.2.2.1, g.2.2.2.1, hts⟩ (hM b hb) ⟨va_cnB As.length hts (qv_goodc hw) rfl rfl rfl (g.2.2.2.2.2.1.2.2.2.1 _ hl) (hts _ hw.2.1) ⟨hw.2.2.1, hw.2.2.2, hn⟩ ⟨hR.1, by show 8 + (maxL + 11) + 64 * (d + 1) ≤ _; omega⟩, hts _ hin, trivial⟩ ⟨qv_blind _ _ (fun U g mk a h => h.blind g mk a), fun U hU hW => qv_pre g h2 h3 _ U hU hW⟩ rfl rfl hls hst (lv_room hrs) hd ⟨hc.1, hc.2⟩⟩
/-- behind a call that only answers -/
theorem qv_aI {M0 : qv_Mem} {o1 : Option Int32} {stk rest : List Value} {k : Int32 → Option α} (hM0 : M0 = M) (h : qv_Cl G X nL T cs pc stk rest M (qv_eI M0) o1) (kk : ∀ v, qv_V G X nL Q T cs (pc + 3) lv (.int v :: rest) M (k v)) : qv_V G X nL Q T cs pc lv stk M (qv_bo o1 k) := by
  subst hM0
  intro a ha ls H locs h1 h2 h3
  cases e : o1 with
  | none => rw [e] at ha; cases ha
  | some b =>
    rw [e] at ha
    obtain ⟨av, hr⟩ := h b e ls H locs h1.1 h2 h3
    exact qv_run hr h3 (fun H1 locs1 i2 i3 => kk b a ha ls H1 locs1 h1 i2 i3)
theorem qv_aL {M0 : qv_Mem} {o1 : Option Int64} {stk rest : List Value} {k : Int64 → Option α} (hM0 : M0 = M) (h : qv_Cl G X nL T cs pc stk rest M (qv_eL M0) o1) (kk : ∀ v, qv_V G X nL Q T cs (pc + 3) lv (.long v :: rest) M (k v)) : qv_V G X nL Q T cs pc lv stk M (qv_bo o1 k) := by
  subst hM0
  intro a ha ls H locs h1 h2 h3
  cases e : o1 with
  | none => rw [e] at ha; cases ha
  | some b =>
    rw [e] at ha
    obtain ⟨av, hr⟩ := h b e ls H locs h1.1 h2 h3
    exact qv_run hr h3 (fun H1 locs1 i2 i3 => kk b a ha ls H1 locs1 h1 i2 i3)
/-- behind a call that answers nothing, and changes -/
theorem qv_aV {o1 : Option qv_Mem} {stk rest : List Value} {k : qv_Mem → Option α} (h : qv_Cl G X nL T cs pc stk rest M qv_eV o1) (kk : ∀ M1, qv_V G X nL Q T cs (pc + 3) lv rest M1 (k M1)) : qv_V G X nL Q T cs pc lv stk M (qv_bo o1 k) := by
  intro a ha ls H locs h1 h2 h3
  cases e : o1 with
  | none => rw [e] at ha; cases ha
  | some b =>
    rw [e] at ha
    obtain ⟨av, hr⟩ := h b e ls H locs h1.1 h2 h3
    exact qv_run hr h3 (fun H1 locs1 i2 i3 => kk b a ha ls H1 locs1 h1 i2 i3)
theorem qv_aIM {o1 : Option (Int32 × qv_Mem)} {stk rest : List Value} {k : Int32 → qv_Mem → Option α} (h : qv_Cl G X nL T cs pc stk rest M qv_eIM o1) (kk : ∀ v M1, qv_V G X nL Q T cs (pc + 3) lv (.int v :: rest) M1 (k v M1)) : qv_V G X nL Q T cs pc lv stk M (qv_bp o1 k) := by
  intro a ha ls H locs h1 h2 h3
  cases e : o1 with
  | none => rw [e] at ha; cases ha
  | some b =>
    rw [e] at ha
    obtain ⟨av, hr⟩ := h b e ls H locs h1.1 h2 h3
    exact qv_run hr h3 (fun H1 locs1 i2 i3 => kk b.1 b.2 a ha ls H1 locs1 h1 i2 i3)
theorem qv_aLM {o1 : Option (Int64 × qv_Mem)} {stk rest : List Value} {k : Int64 → qv_Mem → Option α} (h : qv_Cl G X nL T cs pc stk rest M qv_eLM o1) (kk : ∀ v M1, qv_V G X nL Q T cs (pc + 3) lv (.long v :: rest) M1 (k v M1)) : qv_V G X nL Q T cs pc lv stk M (qv_bp o1 k) := by
  intro a ha ls H locs h1 h2 h3
  cases e : o1 with
  | none => rw [e] at ha; cases ha
  | some b =>
    rw [e] at ha
    obtain ⟨av, hr⟩ := h b e ls H locs h1.1 h2 h3
    exact qv_run hr h3 (fun H1 locs1 i2 i3 => kk b.1 b.2 a ha ls H1 locs1 h1 i2 i3)
/-- the greater, the lesser -/
theorem qv_mmax (g : qv_ok G X cc own nL) {index : Nat} {x y : Int32} (hl : Cond.methodLink own index Lib.Math.max.name ∈ qv_gt) (hs : Cond.static Lib.Math.max.name ∈ qv_gt) (hi : Cond.initialized "java/lang/Math" ∈ qv_gt) (hw : Cond.code Lib.Math.max.name Lib.Math.max.code 2 (some .int) ∈ qv_gt) (hrs : (st.map fun v => v.category).sum ≤ 8) (hc : cs.1 ≤ (gR G).cells ∧ cs.2 ≤ (gR G).slots) (hd : decode cc pc = .ok (.invokestatic index, 3)) (k : qv_V G X nL Q T cs (pc + 3) lv (.int (if x < y then y else x) :: st) M o) : qv_V G X nL Q T cs pc lv (.int y :: .int x :: st) M o := fun a ha ls H locs h1 h2 h3 => va_mmax g.1 g.2.1 (by rw [g.2.2.1, h1.1]) g.2.2.2.1 (g.2.2.2.2.1 _ hl) (g.2.2.2.2.1 _ hs) (g.2.2.2.2.1 _ hi) (g.2.2.2.2.1 _ hw) g.2.2.2.2.2.2.2.2.1 (by have := g.2.2.2.2.2.2.2.2.2; omega) hc.1 hc.2 hd (k a ha ls H locs h1 h2 h3)
theorem qv_mmin (g : qv_ok G X cc own nL) {index : Nat} {x y : Int32} (hl : Cond.methodLink own index Lib.Math.min.name ∈ qv_gt) (hs : Cond.static Lib.Math.min.name ∈ qv_gt) (hi : Cond.initialized "java/lang/Math" ∈ qv_gt) (hw : Cond.code Lib.Math.min.name Lib.Math.min.code 2 (some .int) ∈ qv_gt) (hrs : (st.map fun v => v.category).sum ≤ 8) (hc : cs.1 ≤ (gR G).cells ∧ cs.2 ≤ (gR G).slots) (hd : decode cc pc = .ok (.invokestatic index, 3)) (k : qv_V G X nL Q T cs (pc + 3) lv (.int (if y < x then y else x) :: st) M o) : qv_V G X nL Q T cs pc lv (.int y :: .int x :: st) M o := fun a ha ls H locs h1 h2 h3 => va_mmin g.1 g.2.1 (by rw [g.2.2.1, h1.1]) g.2.2.2.1 (g.2.2.2.2.1 _ hl) (g.2.2.2.2.1 _ hs) (g.2.2.2.2.1 _ hi) (g.2.2.2.2.1 _ hw) g.2.2.2.2.2.2.2.2.1 (by have := g.2.2.2.2.2.2.2.2.2; omega) hc.1 hc.2 hd (k a ha ls H locs h1 h2 h3)
/-- the row of plain gates -/
theorem qv_gst (g : qv_ok G X cc own nL) {index : Nat} (hw : Cond.fieldLink own index "RootGates$Cliffords" "PLAIN_GATES" "[I" ∈ qv_gt) (hd : decode cc pc = .ok (.getstatic index, 3)) (k : qv_V G X nL Q T cs (pc + 3) lv (.ref X.2.2.1 :: st) M o) : qv_V G X nL Q T cs pc lv st M o := fun a ha ls H locs h1 h2 h3 => va_gets g.1 g.2.1 g.2.2.2.2.2.1.2.1 h3 g.2.2.2.1 (g.2.2.2.2.1 _ hw) (fun x h => h) hd (k a ha ls H locs h1 h2 h3)
theorem qv_plen (g : qv_ok G X cc own nL) (hd : decode cc pc = .ok (.arraylength, 1)) (k : qv_V G X nL Q T cs (pc + 1) lv (.int 5 :: st) M o) : qv_V G X nL Q T cs pc lv (.ref X.2.2.1 :: st) M o := by
  intro a ha ls H locs h1 h2 h3
  obtain ⟨cell, c1, c2, c3, c4, c5, c6, c7⟩ := g.2.2.2.2.2.1.2.2.1
  exact W.alen (n := 5) g.1 g.2.1 (by rw [h3.2.1 _ (Array.getElem?_eq_some_iff.mp c1).1 c7]; exact c1) c2 c5 rfl rfl hd (k a ha ls H locs h1 h2 h3)
theorem qv_pald (g : qv_ok G X cc own nL) {i : Int32} {kk : Int32 → Option α} (hd : decode cc pc = .ok (.iaload, 1)) (k : ∀ v, qv_V G X nL Q T cs (pc + 1) lv (.int v :: st) M (kk v)) : qv_V G X nL Q T cs pc lv (.int i :: .ref X.2.2.1 :: st) M (qv_ldP i kk) := by
  unfold qv_ldP
  refine qv_ite _ (fun hz => ?_) (fun _ => qv_none)
  have hin := qv_inb_in hz
  intro a ha ls H locs h1 h2 h3
  obtain ⟨cell, c1, c2, c3, c4, c5, c6, c7⟩ := g.2.2.2.2.2.1.2.2.1
  have hlt : i.toNatClampNeg < 5 := Nat.not_le.mp fun q => hin (Or.inr q)
  exact W.iald g.1 g.2.1 (by rw [h3.2.1 _ (Array.getElem?_eq_some_iff.mp c1).1 c7]; exact c1) c2 c3 (fun q => q.elim (fun q => hin (Or.inl q)) (fun q => by omega)) (c6 _ hlt) rfl rfl hd (k _ a ha ls H locs h1 h2 h3)
end QC
