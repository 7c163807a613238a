noncomputable def qv_N : Nat := Classical.choose (Exists.intro 1000000 rfl : ∃ n : Nat, n = 1000000)
theorem qv_N_eq : qv_N = 1000000 := Classical.choose_spec (Exists.intro 1000000 rfl : ∃ n : Nat, n = 1000000)
theorem qv_N_gt (n : Nat) (h : n < 1000000) : n < qv_N := by rw [qv_N_eq]; exact h
theorem qv_offD {x : Int32} {d : Int} : ∀ (ps : List (Int × Int)) (cl : List Int32), ps.map (fun q => q.1) = cl.map (fun c => c.toInt) → (∀ c ∈ cl, ¬ x = c) → Op.lookupswitch.offset ps d x.toInt = d
  | [], _, _, _ => rfl
  | (a, o) :: r, [], h, _ => by simp at h
  | (a, o) :: r, k :: cl, h, hx => by
    simp only [List.map_cons, List.cons.injEq] at h
    rw [lv_osw (hx k List.mem_cons_self) h.1.symm]
    exact qv_offD r cl h.2 (fun c hc => hx c (List.mem_cons_of_mem _ hc))
def qv_lp1 {A1 α : Type} (b : (A1 → Option α) → A1 → Option α) : Nat → A1 → Option α
  | 0, _ => none
  | n + 1, a1 => b (qv_lp1 b n) a1
theorem qv_L1 {A1 α : Type} {b : (A1 → Option α) → A1 → Option α} {Vh : A1 → Option α → Prop} (h0 : ∀ (a1 : A1), Vh a1 none) (hb : ∀ r : A1 → Option α, (∀ (a1 : A1), Vh a1 (r a1)) → ∀ (a1 : A1), Vh a1 (b r a1)) : ∀ (n : Nat) (a1 : A1), Vh a1 (qv_lp1 b n a1) := by
  intro n
  induction n with
  | zero => exact h0
  | succ n ih => exact hb _ ih
def qv_lp2 {A1 A2 α : Type} (b : (A1 → A2 → Option α) → A1 → A2 → Option α) : Nat → A1 → A2 → Option α
  | 0, _, _ => none
  | n + 1, a1, a2 => b (qv_lp2 b n) a1 a2
theorem qv_L2 {A1 A2 α : Type} {b : (A1 → A2 → Option α) → A1 → A2 → Option α} {Vh : A1 → A2 → Option α → Prop} (h0 : ∀ (a1 : A1) (a2 : A2), Vh a1 a2 none) (hb : ∀ r : A1 → A2 → Option α, (∀ (a1 : A1) (a2 : A2), Vh a1 a2 (r a1 a2)) → ∀ (a1 : A1) (a2 : A2), Vh a1 a2 (b r a1 a2)) : ∀ (n : Nat) (a1 : A1) (a2 : A2), Vh a1 a2 (qv_lp2 b n a1 a2) := by
  intro n
  induction n with
  | zero => exact h0
  | succ n ih => exact hb _ ih
def qv_lp3 {A1 A2 A3 α : Type} (b : (A1 → A2 → A3 → Option α) → A1 → A2 → A3 → Option α) : Nat → A1 → A2 → A3 → Option α
  | 0, _, _, _ => none
  | n + 1, a1, a2, a3 => b (qv_lp3 b n) a1 a2 a3
theorem qv_L3 {A1 A2 A3 α : Type} {b : (A1 → A2 → A3 → Option α) → A1 → A2 → A3 → Option α} {Vh : A1 → A2 → A3 → Option α → Prop} (h0 : ∀ (a1 : A1) (a2 : A2) (a3 : A3), Vh a1 a2 a3 none) (hb : ∀ r : A1 → A2 → A3 → Option α, (∀ (a1 : A1) (a2 : A2) (a3 : A3), Vh a1 a2 a3 (r a1 a2 a3)) → ∀ (a1 : A1) (a2 : A2) (a3 : A3), Vh a1 a2 a3 (b r a1 a2 a3)) : ∀ (n : Nat) (a1 : A1) (a2 : A2) (a3 : A3), Vh a1 a2 a3 (qv_lp3 b n a1 a2 a3) := by
  intro n
  induction n with
  | zero => exact h0
  | succ n ih => exact hb _ ih
def qv_lp4 {A1 A2 A3 A4 α : Type} (b : (A1 → A2 → A3 → A4 → Option α) → A1 → A2 → A3 → A4 → Option α) : Nat → A1 → A2 → A3 → A4 → Option α
  | 0, _, _, _, _ => none
  | n + 1, a1, a2, a3, a4 => b (qv_lp4 b n) a1 a2 a3 a4
theorem qv_L4 {A1 A2 A3 A4 α : Type} {b : (A1 → A2 → A3 → A4 → Option α) → A1 → A2 → A3 → A4 → Option α} {Vh : A1 → A2 → A3 → A4 → Option α → Prop} (h0 : ∀ (a1 : A1) (a2 : A2) (a3 : A3) (a4 : A4), Vh a1 a2 a3 a4 none) (hb : ∀ r : A1 → A2 → A3 → A4 → Option α, (∀ (a1 : A1) (a2 : A2) (a3 : A3) (a4 : A4), Vh a1 a2 a3 a4 (r a1 a2 a3 a4)) → ∀ (a1 : A1) (a2 : A2) (a3 : A3) (a4 : A4), Vh a1 a2 a3 a4 (b r a1 a2 a3 a4)) : ∀ (n : Nat) (a1 : A1) (a2 : A2) (a3 : A3) (a4 : A4), Vh a1 a2 a3 a4 (qv_lp4 b n a1 a2 a3 a4) := by
  intro n
  induction n with
  | zero => exact h0
  | succ n ih => exact hb _ ih
def qv_lp5 {A1 A2 A3 A4 A5 α : Type} (b : (A1 → A2 → A3 → A4 → A5 → Option α) → A1 → A2 → A3 → A4 → A5 → Option α) : Nat → A1 → A2 → A3 → A4 → A5 → Option α
  | 0, _, _, _, _, _ => none
  | n + 1, a1, a2, a3, a4, a5 => b (qv_lp5 b n) a1 a2 a3 a4 a5
theorem qv_L5 {A1 A2 A3 A4 A5 α : Type} {b : (A1 → A2 → A3 → A4 → A5 → Option α) → A1 → A2 → A3 → A4 → A5 → Option α} {Vh : A1 → A2 → A3 → A4 → A5 → Option α → Prop} (h0 : ∀ (a1 : A1) (a2 : A2) (a3 : A3) (a4 : A4) (a5 : A5), Vh a1 a2 a3 a4 a5 none) (hb : ∀ r : A1 → A2 → A3 → A4 → A5 → Option α, (∀ (a1 : A1) (a2 : A2) (a3 : A3) (a4 : A4) (a5 : A5), Vh a1 a2 a3 a4 a5 (r a1 a2 a3 a4 a5)) → ∀ (a1 : A1) (a2 : A2) (a3 : A3) (a4 : A4) (a5 : A5), Vh a1 a2 a3 a4 a5 (b r a1 a2 a3 a4 a5)) : ∀ (n : Nat) (a1 : A1) (a2 : A2) (a3 : A3) (a4 : A4) (a5 : A5), Vh a1 a2 a3 a4 a5 (qv_lp5 b n a1 a2 a3 a4 a5) := by
  intro n
  induction n with
  | zero => exact h0
  | succ n ih => exact hb _ ih
def qv_lp6 {A1 A2 A3 A4 A5 A6 α : Type} (b : (A1 → A2 → A3 → A4 → A5 → A6 → Option α) → A1 → A2 → A3 → A4 → A5 → A6 → Option α) : Nat → A1 → A2 → A3 → A4 → A5 → A6 → Option α
  | 0, _, _, _, _, _, _ => none
  | n + 1, a1, a2, a3, a4, a5, a6 => b (qv_lp6 b n) a1 a2 a3 a4 a5 a6
theorem qv_L6 {A1 A2 A3 A4 A5 A6 α : Type} {b : (A1 → A2 → A3 → A4 → A5 → A6 → Option α) → A1 → A2 → A3 → A4 → A5 → A6 → Option α} {Vh : A1 → A2 → A3 → A4 → A5 → A6 → Option α → Prop} (h0 : ∀ (a1 : A1) (a2 : A2) (a3 : A3) (a4 : A4) (a5 : A5) (a6 : A6), Vh a1 a2 a3 a4 a5 a6 none) (hb : ∀ r : A1 → A2 → A3 → A4 → A5 → A6 → Option α, (∀ (a1 : A1) (a2 : A2) (a3 : A3) (a4 : A4) (a5 : A5) (a6 : A6), Vh a1 a2 a3 a4 a5 a6 (r a1 a2 a3 a4 a5 a6)) → ∀ (a1 : A1) (a2 : A2) (a3 : A3) (a4 : A4) (a5 : A5) (a6 : A6), Vh a1 a2 a3 a4 a5 a6 (b r a1 a2 a3 a4 a5 a6)) : ∀ (n : Nat) (a1 : A1) (a2 : A2) (a3 : A3) (a4 : A4) (a5 : A5) (a6 : A6), Vh a1 a2 a3 a4 a5 a6 (qv_lp6 b n a1 a2 a3 a4 a5 a6) := by
  intro n
  induction n with
  | zero => exact h0
  | succ n ih => exact hb _ ih
def qv_lp7 {A1 A2 A3 A4 A5 A6 A7 α : Type} (b : (A1 → A2 → A3 → A4 → A5 → A6 → A7 → Option α) → A1 → A2 → A3 → A4 → A5 → A6 → A7 → Option α) : Nat → A1 → A2 → A3 → A4 → A5 → A6 → A7 → Option α
  | 0, _, _, _, _, _, _, _ => none
  | n + 1, a1, a2, a3, a4, a5, a6, a7 => b (qv_lp7 b n) a1 a2 a3 a4 a5 a6 a7
theorem qv_L7 {A1 A2 A3 A4 A5 A6 A7 α : Type} {b : (A1 → A2 → A3 → A4 → A5 → A6 → A7 → Option α) → A1 → A2 → A3 → A4 → A5 → A6 → A7 → Option α} {Vh : A1 → A2 → A3 → A4 → A5 → A6 → A7 → Option α → Prop} (h0 : ∀ (a1 : A1) (a2 : A2) (a3 : A3) (a4 : A4) (a5 : A5) (a6 : A6) (a7 : A7), Vh a1 a2 a3 a4 a5 a6 a7 none) (hb : ∀ r : A1 → A2 → A3 → A4 → A5 → A6 → A7 → Option α, (∀ (a1 : A1) (a2 : A2) (a3 : A3) (a4 : A4) (a5 : A5) (a6 : A6) (a7 : A7), Vh a1 a2 a3 a4 a5 a6 a7 (r a1 a2 a3 a4 a5 a6 a7)) → ∀ (a1 : A1) (a2 : A2) (a3 : A3) (a4 : A4) (a5 : A5) (a6 : A6) (a7 : A7), Vh a1 a2 a3 a4 a5 a6 a7 (b r a1 a2 a3 a4 a5 a6 a7)) : ∀ (n : Nat) (a1 : A1) (a2 : A2) (a3 : A3) (a4 : A4) (a5 : A5) (a6 : A6) (a7 : A7), Vh a1 a2 a3 a4 a5 a6 a7 (qv_lp7 b n a1 a2 a3 a4 a5 a6 a7) := by
  intro n
  induction n with
  | zero => exact h0
  | succ n ih => exact hb _ ih
def qv_lp8 {A1 A2 A3 A4 A5 A6 A7 A8 α : Type} (b : (A1 → A2 → A3 → A4 → A5 → A6 → A7 → A8 → Option α) → A1 → A2 → A3 → A4 → A5 → A6 → A7 → A8 → Option α) : Nat → A1 → A2 → A3 → A4 → A5 → A6 → A7 → A8 → Option α
  | 0, _, _, _, _, _, _, _, _ => none
  | n + 1, a1, a2, a3, a4, a5, a6, a7, a8 => b (qv_lp8 b n) a1 a2 a3 a4 a5 a6 a7 a8
theorem qv_L8 {A1 A2 A3 A4 A5 A6 A7 A8 α : Type} {b : (A1 → A2 → A3 → A4 → A5 → A6 → A7 → A8 → Option α) → A1 → A2 → A3 → A4 → A5 → A6 → A7 → A8 → Option α} {Vh : A1 → A2 → A3 → A4 → A5 → A6 → A7 → A8 → Option α → Prop} (h0 : ∀ (a1 : A1) (a2 : A2) (a3 : A3) (a4 : A4) (a5 : A5) (a6 : A6) (a7 : A7) (a8 : A8), Vh a1 a2 a3 a4 a5 a6 a7 a8 none) (hb : ∀ r : A1 → A2 → A3 → A4 → A5 → A6 → A7 → A8 → Option α, (∀ (a1 : A1) (a2 : A2) (a3 : A3) (a4 : A4) (a5 : A5) (a6 : A6) (a7 : A7) (a8 : A8), Vh a1 a2 a3 a4 a5 a6 a7 a8 (r a1 a2 a3 a4 a5 a6 a7 a8)) → ∀ (a1 : A1) (a2 : A2) (a3 : A3) (a4 : A4) (a5 : A5) (a6 : A6) (a7 : A7) (a8 : A8), Vh a1 a2 a3 a4 a5 a6 a7 a8 (b r a1 a2 a3 a4 a5 a6 a7 a8)) : ∀ (n : Nat) (a1 : A1) (a2 : A2) (a3 : A3) (a4 : A4) (a5 : A5) (a6 : A6) (a7 : A7) (a8 : A8), Vh a1 a2 a3 a4 a5 a6 a7 a8 (qv_lp8 b n a1 a2 a3 a4 a5 a6 a7 a8) := by
  intro n
  induction n with
  | zero => exact h0
  | succ n ih => exact hb _ ih
/-! Ends of methods, contracts, calls. -/
def qv_eI (M : qv_Mem) (v : Int32) : qv_Res := (some (.int v), M)
def qv_eL (M : qv_Mem) (v : Int64) : qv_Res := (some (.long v), M)
def qv_eIM (a : Int32 × qv_Mem) : qv_Res := (some (.int a.1), a.2)
def qv_eLM (a : Int64 × qv_Mem) : qv_Res := (some (.long a.1), a.2)
def qv_eV (M : qv_Mem) : qv_Res := (none, M)
def qv_Qo (X : qv_X) (T : List qv_Ent) (r : qv_Res) : Array Value → State → Outcome → State → Prop := fun _ st oc t => oc = .returned r.1 ∧ qv_Wd X T r.2 t ∧ va_F (qv_A X) st t
def qv_QM {α : Type} (G : qv_G) (X : qv_X) (T : List qv_Ent) (emb : α → qv_Res) (cs : Nat × Nat) : α → State → Prop := fun a => MQ (gb G) (qv_Qo X T (emb a)) (ga G) (gs G) cs.1 cs.2 (qv_A X)
def qv_rm (d : Nat) : Room := { frames := d + 1, cells := 0, slots := 0, locals := 64 * (d + 1) }
def qv_Ok {α : Type} (l : Launch) (X : qv_X) (y : MethodName) (bytes : ByteArray) (maxL : Nat) (ret : Option FieldType) (d : Nat) (T : List qv_Ent) (M : qv_Mem) (av : List Value) (emb : α → qv_Res) (o : Option α) : Prop :=
  ∀ a, o = some a → Met l y (Cond.code y bytes maxL ret :: qv_gt) (qv_rm d) (va_Pc av (qv_Wd X T M)) (qv_Qo X T (emb a)) 0 0 (qv_A X)
theorem qv_mk {α : Type} {l : Launch} {X : qv_X} {y : MethodName} {bytes : ByteArray} {maxL : Nat} {ret : Option FieldType} {d : Nat} {T : List qv_Ent} {M : qv_Mem} {av : List Value} {emb : α → qv_Res} {o : Option α} {lv : List (Nat × Value)} (hy : plainName y.cls = true) (hle : (lg_sl av).length ≤ maxL) (hlv : lv_args 0 av = lv)
    (body : ∀ G : qv_G, gl G = l → gR G = qv_rm d → qv_ok G X bytes y.cls maxL → (gM G).sig.returnType = ret → qv_V G X maxL (qv_QM G X T emb (0, 0)) T (0, 0) 0 lv [] M o) : qv_Ok l X y bytes maxL ret d T M av emb o := by
  subst hlv
  intro a ha
  refine Met.ofW (cc := bytes) (maxL := maxL) (ret := ret) hy rfl ?_
  intro p e s m args below meth c s₁ B hml hv
  obtain ⟨rfl, hW, hK⟩ := hv
  have hts := atoms_spec (ws := Cond.code y bytes maxL ret :: qv_gt) B.pre
  rw [lg_entry_eq]
  have hl := lv_entry av (n := maxL) hle
  exact body (p, l, e, qv_rm d, s, m, av.toArray, below, meth, c) rfl rfl ⟨B.exec, B.bytes, hml, findClass_of_methodNamed B.named, fun w hw => hts w (List.mem_cons_of_mem _ hw), hK, by show _ ≤ s.heap.size; rw [hW.1]; exact Nat.le_add_right _ _, B.notSynchronized, by show 1 ≤ d + 1; omega, by show 64 ≤ 64 * (d + 1); omega⟩ B.returns a ha _ s.heap [] hl hW va_S.rf
section QE
variable {α : Type} {G : qv_G} {X : qv_X} {nL : Nat} {T : List qv_Ent} {cs : Nat × Nat} {pc : Nat} {lv : List (Nat × Value)} {st : List Value} {M : qv_Mem} {cc : ByteArray} {own : String} {emb : α → qv_Res} {b : α}
theorem qv_end (g : qv_ok G X cc own nL) {H : Heap} {locs : List Loc} (h2 : qv_Hp X T M H) (h3 : va_S (qv_A X) (gs G).heap H locs) {r : Option Value} (he : emb b = (r, M)) (t : State) (ht : t.heap = H) (hW : (gs G).WarmedH t.vm) : qv_Qo X T (emb b) (ga G) (gs G) (.returned r) t :=
  ⟨by rw [he], ⟨by rw [he, ht]; exact h2, g.2.2.2.2.2.1.go hW (fun q h1 h4 => by rw [ht]; exact h3.2.1 q h1 h4)⟩, h3.F ht⟩
theorem qv_iret (g : qv_ok G X cc own nL) {v : Int32} (hr : (gM G).sig.returnType = some .int) (he : emb b = (some (.int v), M)) (hd : decode cc pc = .ok (.ireturn, 1)) : qv_V G X nL (qv_QM G X T emb cs) T cs pc lv [.int v] M (some b) := by
  intro a ha ls H locs h1 h2 h3
  cases ha
  exact W.iret g.1 g.2.1 hr (qv_end g h2 h3 he) h3.2.2 hd g.2.2.2.2.2.2.2.1
theorem qv_zret (g : qv_ok G X cc own nL) {v : Int32} (hr : (gM G).sig.returnType = some .boolean) (hv : narrow .boolean (.int v) = .int v) (he : emb b = (some (.int v), M)) (hd : decode cc pc = .ok (.ireturn, 1)) : qv_V G X nL (qv_QM G X T emb cs) T cs pc lv [.int v] M (some b) := by
  intro a ha ls H locs h1 h2 h3
  cases ha
  exact W.zret g.1 g.2.1 hr hv (qv_end g h2 h3 he) h3.2.2 hd g.2.2.2.2.2.2.2.1
theorem qv_zretg (g : qv_ok G X cc own nL) {v : Int32} (hr : (gM G).sig.returnType = some .boolean) (he : emb b = (some (.int v), M)) (hd : decode cc pc = .ok (.ireturn, 1)) : qv_V G X nL (qv_QM G X T emb cs) T cs pc lv [.int v] M (qv_gd (qv_01 v) (some b)) := by
  unfold qv_gd
  refine qv_ite _ (fun hz => ?_) (fun _ => qv_none)
  have hv : v = 0 ∨ v = 1 := by simpa [qv_01] using hz
  exact qv_zret g hr (by rcases hv with rfl | rfl <;> rfl) he hd
theorem qv_lret (g : qv_ok G X cc own nL) {v : Int64} (hr : (gM G).sig.returnType = some .long) (he : emb b = (some (.long v), M)) (hd : decode cc pc = .ok (.lreturn, 1)) : qv_V G X nL (qv_QM G X T emb cs) T cs pc lv [.long v] M (some b) := by
  intro a ha ls H locs h1 h2 h3
  cases ha
  exact W.lret g.1 g.2.1 hr (qv_end g h2 h3 he) h3.2.2 hd g.2.2.2.2.2.2.2.1
theorem qv_vret (g : qv_ok G X cc own nL) (hr : (gM G).sig.returnType = none) (he : emb b = (none, M)) (hd : decode cc pc = .ok (.return_, 1)) : qv_V G X nL (qv_QM G X T emb cs) T cs pc lv [] M (some b) := by
  intro a ha ls H locs h1 h2 h3
  cases ha
  exact W.vret g.1 g.2.1 hr (qv_end g h2 h3 he) h3.2.2 hd g.2.2.2.2.2.2.2.1
end QE
def qv_Cl {β : Type} (G : qv_G) (X : qv_X) (nL : Nat) (T : List qv_Ent) (cs : Nat × Nat) (pc : Nat) (stk rest : List Value) (M : qv_Mem) (emb : β → qv_Res) (o1 : Option β) : Prop :=
  ∀ b, o1 = some b → ∀ (ls : Array Slot) (H : Heap) (locs : List Loc), ls.size = nL → qv_Hp X T M H → va_S (qv_A X) (gs G).heap H locs → ∃ av, va_Run (gp G) (gl G) (ge G) (gR G) (gs G) (gm G) (ga G) (gb G) (gM G) (gc G) H locs cs.1 cs.2 0 0 (F0 (gm G) pc ls stk) rest (qv_Qo X T (emb b) av) (qv_A X)
def qv_mw (y : MethodName) (bytes : ByteArray) (maxL : Nat) (ret : Option FieldType) : Prop := Cond.code y bytes maxL ret ∈ qv_gt ∧ Cond.initialized y.cls ∈ qv_gt ∧ y.cls ≠ "java/lang/invoke/MethodHandle" ∧ y.cls ≠ "java/lang/invoke/VarHandle"
theorem qv_goodc {y : MethodName} {bytes : ByteArray} {maxL : Nat} {ret : Option FieldType} (h : qv_mw y bytes maxL ret) : GoodIn qv_gt (Cond.code y bytes maxL ret :: qv_gt) := fun w hw => by
  rcases List.mem_cons.mp hw with e | e
  · rw [e]; exact qv_good _ h.1
  · exact qv_good _ e
section QC
variable {α : Type} {G : qv_G} {X : qv_X} {nL : Nat} {Q : α → State → Prop} {T : List qv_Ent} {cs : Nat × Nat} {pc : Nat} {lv : List (Nat × Value)} {st : List Value} {M : qv_Mem} {o : Option α} {cc : ByteArray} {own : String}
theorem qv_run {H : Heap} {locs : List Loc} {ls : Array Slot} {stk rest : List Value} {r : qv_Res} {av : Array Value} {Qw : State → Prop} (hr : va_Run (gp G) (gl G) (ge G) (gR G) (gs G) (gm G) (ga G) (gb G) (gM G) (gc G) H locs cs.1 cs.2 0 0 (F0 (gm G) pc ls stk) rest (qv_Qo X T r av) (qv_A X)) (hS : va_S (qv_A X) (gs G).heap H locs)
    (kk : ∀ (H1 : Heap) (locs1 : List Loc), qv_Hp X T r.2 H1 → va_S (qv_A X) (gs G).heap H1 locs1 → W (gp G) (gl G) (ge G) (gR G) (gs G) (gm G) (ga G) (gb G) (gM G) (gc G) H1 locs1 cs.1 cs.2 Qw (F0 (gm G) (pc + 3) ls (r.1.toList ++ rest))) : W (gp G) (gl G) (ge G) (gR G) (gs G) (gm G) (ga G) (gb G) (gM G) (gc G) H locs cs.1 cs.2 Qw (F0 (gm G) pc ls stk) := by
  intro T0 hT X0
  obtain ⟨v, st₀, t, T', L, h0, X', hL, e1, e2, ⟨hv, hb, hz, hk⟩, st⟩ := hr T0 hT X0
  cases hv
  rw [h0] at hz hk
  obtain ⟨t2, a1, b1⟩ := kk T'.heap (locs ++ L) (by rw [e1]; exact hb.1) ⟨Nat.le_trans hS.1 (by rw [e1]; exact hz), fun q h1 h2 => by rw [e1, hk q (Nat.lt_of_lt_of_le h1 hS.1) h2]; exact hS.2.1 q h1 h2, fun q hq => by
      rcases List.mem_append.mp hq with h | h
      · exact hS.2.2 q h
      · exact hL q h⟩ T' rfl X'
  exact ⟨t2, st t2 a1, b1⟩
theorem qv_blind (av : List Value) (hW : State → Prop) (h : ∀ (U : State) (g : JFrame) (mk : MethodId) (a : Array Value), hW U → hW (U.calling g mk a)) : FrameBlind (va_Pc av hW) := fun a U g mk q => ⟨q.1, h U g mk a q.2⟩
theorem qv_Wd.blind {U : State} (g : JFrame) (mk : MethodId) (a : Array Value) (h : qv_Wd X T M U) : qv_Wd X T M (U.calling g mk a) := by
  obtain ⟨h1, k1, k2, k3, k4, k5, k6⟩ := h
  exact ⟨h1, va_K.moved (u := U) (U := U.calling g mk a) (Vm.Alike.refl U.vm) k1, va_Z.moved (u := U) (U := U.calling g mk a) (Vm.Alike.refl U.vm) k2, va_T.moved (u := U) (U := U.calling g mk a) (Vm.Alike.refl U.vm) k3, fun w hw => va_Nw.same (by obtain ⟨_, _, _, _, rfl⟩ := qv_nst_form w hw; rfl) (u := U) (U := U.calling g mk a) rfl (k4 w hw), va_AO.moved (u := U) (U := U.calling g mk a) (Vm.Alike.refl U.vm) k5, va_AO.moved (u := U) (U := U.calling g mk a) (Vm.Alike.refl U.vm) k6⟩
theorem qv_pre (g : qv_ok G X cc own nL) {H : Heap} {locs : List Loc} (h2 : qv_Hp X T M H) (h3 : va_S (qv_A X) (gs G).heap H locs) (av : List Value) (U : State) (hU : U.heap = H) (hW : (gs G).WarmedH U.vm) : va_Pc av (qv_Wd X T M) av.toArray U :=
  ⟨rfl, by rw [hU]; exact h2, g.2.2.2.2.2.1.go hW (fun q h1 h4 => by rw [hU]; exact h3.2.1 q h1 h4)⟩
/-- a method of an object -/
theorem qv_cv (g : qv_ok G X cc own nL) {β : Type} {emb : β → qv_Res} {o1 : Option β} {y : MethodName} {bytes : ByteArray} {maxL d index id ci n s N : Nat} {ret : Option FieldType} {As stk rest : List Value} {TT : u_T} (hM : qv_Ok (gl G) X y bytes maxL ret d T M (.ref (X.2.2.2 + id) :: As) emb o1) (hR : d + 2 ≤ (gR G).frames ∧ 19 + maxL + 64 * (d + 1) ≤ (gR G).locals) (hc : cs.1 ≤ (gR G).cells ∧ cs.2 ≤ (gR G).slots) (hw : qv_mw y bytes maxL ret) (hl : Cond.methodLink own index y ∈ qv_gt) (hin : Cond.instanceMethod y ∈ qv_gt) (hsel : Cond.selects y.cls y y ∈ qv_gt) (hci : ci < 20) (hcl : vwCl[ci]? = some (y.cls, TT, N)) (hi : qv_is n T ci s id) (hn : (parseMethodDescriptor y.desc).map (fun d => d.parameters.length) = some As.length) (hst : stk = As.reverse ++ .ref (X.2.2.2 + id) :: rest) (hrs : (rest.map fun v => v.category).sum ≤ 8) (hd : decode cc pc = .ok (.invokevirtual index, 3)) : qv_Cl G X nL T cs pc stk rest M emb o1 := by
  intro b hb ls H locs hls h2 h3
  have hts := g.2.2.2.2.1
  obtain ⟨fs, he⟩ := hi.sh
  have hP := h2.one he
  rw [qv_cel_o X hci] at hP
  refine ⟨_, va_runV (As := As) (rest := rest) (Ts := qv_gt) (own := own) (C := y.cls) ⟨g.1, g.2.1, g.2.2.1, g.2.2.2.1, hts⟩ (hM b hb) ⟨callB_of As.length hts (qv_goodc hw) rfl rfl rfl (hts _ hw.2.1) (hts _ hl) ⟨hw.2.2.1, hw.2.2.2, hn⟩ ⟨hR.1, by show 8 + (maxL + 11) + 64 * (d + 1) ≤ _; omega⟩, hts _ hin, hts _ hsel⟩ ⟨qv_blind _ _ (fun U g mk a h => h.blind g mk a), va_recv g.2.2.2.2.2.1.1 hP hcl (q0 := 0) rfl, fun U hU hW => qv_pre g h2 h3 _ U hU hW⟩ rfl rfl hls hst (lv_room hrs) hd ⟨hc.1, hc.2⟩⟩
/-- a static method -/
theorem qv_cs (g : qv_ok G X cc own nL) {β : Type} {emb : β → qv_Res} {o1 : Option β} {y : MethodName} {bytes : ByteArray} {maxL d index : Nat} {ret : Option FieldType} {As stk rest : List Value} (hM : qv_Ok (gl G) X y bytes maxL ret d T M As emb o1) (hR : d + 2 ≤ (gR G).frames ∧ 19 + maxL + 64 * (d + 1) ≤ (gR G).locals) (hc : cs.1 ≤ (gR G).cells ∧ cs.2 ≤ (gR G).slots) (hw : qv_mw y bytes maxL ret) (hl : Cond.methodLink own index y ∈ qv_gt) (hin : Cond.static y ∈ qv_gt) (hn : (parseMethodDescriptor y.desc).map (fun d => d.parameters.length) = some As.length) (hst : stk = As.reverse ++ rest) (hrs : (rest.map fun v => v.category).sum ≤ 8) (hd : decode cc pc = .ok (.invokestatic index, 3)) : qv_Cl G X nL T cs pc stk rest M emb o1 := by
  intro b hb ls H locs hls h2 h3
  have hts := g.2.2.2.2.1
  refine ⟨_, va_runS (As := As) (rest := rest) (Ts := qv_gt) (own := own) ⟨g.1, g.2.1, g.2.2.1, g.2.2.2.1, hts⟩ (hM b hb) ⟨callB_of As.length hts (qv_goodc hw) rfl rfl rfl (hts _ hw.2.1) (hts _ hl) ⟨hw.2.2.1, hw.2.2.2, hn⟩ ⟨hR.1, by show 8 + (maxL + 11) + 64 * (d + 1) ≤ _; omega⟩, hts _ hin⟩ ⟨qv_blind _ _ (fun U g mk a h => h.blind g mk a), fun U hU hW => qv_pre g h2 h3 _ U hU hW⟩ rfl rfl hls hst (lv_room hrs) hd ⟨hc.1, hc.2⟩⟩
/-- a nest mate's static method -/
theorem qv_cn (g : qv_ok G X cc own nL) {β : Type} {emb : β → qv_Res} {o1 : Option β} {y : MethodName} {bytes : ByteArray} {maxL d index : Nat} {ret : Option FieldType} {As stk rest : List Value} {host : String} (hM : qv_Ok (gl G) X y bytes maxL ret d T M As emb o1) (hR : d + 2 ≤ (gR G).frames ∧ 19 + maxL + 64 * (d + 1) ≤ (gR G).locals) (hc : cs.1 ≤ (gR G).cells ∧ cs.2 ≤ (gR G).slots) (hw : qv_mw y bytes maxL ret) (hl : Cond.methodLinkNest own index y host ∈ qv_nst) (hin : Cond.static y ∈ qv_gt) (hn : (parseMethodDescriptor y.desc).map (fun d => d.parameters.length) = some As.length) (hst : stk = As.reverse ++ rest) (hrs : (rest.map fun v => v.category).sum ≤ 8) (hd : decode cc pc = .ok (.invokestatic index, 3)) : qv_Cl G X nL T cs pc stk rest M emb o1 := by
  intro b hb ls H locs hls h2 h3
  have hts := g.2.2.2.2.1
  refine ⟨_, va_runSN (As := As) (rest := rest) (Ts := qv_gt) (own := own) ⟨g.1, g.2.1, g.2.2.1, g.2.2.2.1, hts⟩ (hM b hb) ⟨va_cnB As.length hts (qv_goodc hw) rfl rfl rfl (g.2.2.2.2.2.1.2.2.2.1 _ hl) (hts _ hw.2.1) ⟨hw.2.2.1, hw.2.2.2, hn⟩ ⟨hR.1, by show 8 + (maxL + 11) + 64 * (d + 1) ≤ _; omega⟩, hts _ hin, trivial⟩ ⟨qv_blind _ _ (fun U g mk a h => h.blind g mk a), fun U hU hW => qv_pre g h2 h3 _ U hU hW⟩ rfl rfl hls hst (lv_room hrs) hd ⟨hc.1, hc.2⟩⟩
/-- behind a call that only answers -/
theorem qv_aI {M0 : qv_Mem} {o1 : Option Int32} {stk rest : List Value} {k : Int32 → Option α} (hM0 : M0 = M) (h : qv_Cl G X nL T cs pc stk rest M (qv_eI M0) o1) (kk : ∀ v, qv_V G X nL Q T cs (pc + 3) lv (.int v :: rest) M (k v)) : qv_V G X nL Q T cs pc lv stk M (qv_bo o1 k) := by
  subst hM0
  intro a ha ls H locs h1 h2 h3
  cases e : o1 with
  | none => rw [e] at ha; cases ha
  | some b =>
    rw [e] at ha
    obtain ⟨av, hr⟩ := h b e ls H locs h1.1 h2 h3
    exact qv_run hr h3 (fun H1 locs1 i2 i3 => kk b a ha ls H1 locs1 h1 i2 i3)
theorem qv_aL {M0 : qv_Mem} {o1 : Option Int64} {stk rest : List Value} {k : Int64 → Option α} (hM0 : M0 = M) (h : qv_Cl G X nL T cs pc stk rest M (qv_eL M0) o1) (kk : ∀ v, qv_V G X nL Q T cs (pc + 3) lv (.long v :: rest) M (k v)) : qv_V G X nL Q T cs pc lv stk M (qv_bo o1 k) := by
  subst hM0
  intro a ha ls H locs h1 h2 h3
  cases e : o1 with
  | none => rw [e] at ha; cases ha
  | some b =>
    rw [e] at ha
    obtain ⟨av, hr⟩ := h b e ls H locs h1.1 h2 h3
    exact qv_run hr h3 (fun H1 locs1 i2 i3 => kk b a ha ls H1 locs1 h1 i2 i3)
/-- behind a call that answers nothing, and changes -/
theorem qv_aV {o1 : Option qv_Mem} {stk rest : List Value} {k : qv_Mem → Option α} (h : qv_Cl G X nL T cs pc stk rest M qv_eV o1) (kk : ∀ M1, qv_V G X nL Q T cs (pc + 3) lv rest M1 (k M1)) : qv_V G X nL Q T cs pc lv stk M (qv_bo o1 k) := by
  intro a ha ls H locs h1 h2 h3
  cases e : o1 with
  | none => rw [e] at ha; cases ha
  | some b =>
    rw [e] at ha
    obtain ⟨av, hr⟩ := h b e ls H locs h1.1 h2 h3
    exact qv_run hr h3 (fun H1 locs1 i2 i3 => kk b a ha ls H1 locs1 h1 i2 i3)
theorem qv_aIM {o1 : Option (Int32 × qv_Mem)} {stk rest : List Value} {k : Int32 → qv_Mem → Option α} (h : qv_Cl G X nL T cs pc stk rest M qv_eIM o1) (kk : ∀ v M1, qv_V G X nL Q T cs (pc + 3) lv (.int v :: rest) M1 (k v M1)) : qv_V G X nL Q T cs pc lv stk M (qv_bp o1 k) := by
  intro a ha ls H locs h1 h2 h3
  cases e : o1 with
  | none => rw [e] at ha; cases ha
  | some b =>
    rw [e] at ha
    obtain ⟨av, hr⟩ := h b e ls H locs h1.1 h2 h3
    exact qv_run hr h3 (fun H1 locs1 i2 i3 => kk b.1 b.2 a ha ls H1 locs1 h1 i2 i3)
theorem qv_aLM {o1 : Option (Int64 × qv_Mem)} {stk rest : List Value} {k : Int64 → qv_Mem → Option α} (h : qv_Cl G X nL T cs pc stk rest M qv_eLM o1) (kk : ∀ v M1, qv_V G X nL Q T cs (pc + 3) lv (.long v :: rest) M1 (k v M1)) : qv_V G X nL Q T cs pc lv stk M (qv_bp o1 k) := by
  intro a ha ls H locs h1 h2 h3
  cases e : o1 with
  | none => rw [e] at ha; cases ha
  | some b =>
    rw [e] at ha
    obtain ⟨av, hr⟩ := h b e ls H locs h1.1 h2 h3
    exact qv_run hr h3 (fun H1 locs1 i2 i3 => kk b.1 b.2 a ha ls H1 locs1 h1 i2 i3)
/-- the greater, the lesser -/
theorem qv_mmax (g : qv_ok G X cc own nL) {index : Nat} {x y : Int32} (hl : Cond.methodLink own index Lib.Math.max.name ∈ qv_gt) (hs : Cond.static Lib.Math.max.name ∈ qv_gt) (hi : Cond.initialized "java/lang/Math" ∈ qv_gt) (hw : Cond.code Lib.Math.max.name Lib.Math.max.code 2 (some .int) ∈ qv_gt) (hrs : (st.map fun v => v.category).sum ≤ 8) (hc : cs.1 ≤ (gR G).cells ∧ cs.2 ≤ (gR G).slots) (hd : decode cc pc = .ok (.invokestatic index, 3)) (k : qv_V G X nL Q T cs (pc + 3) lv (.int (if x < y then y else x) :: st) M o) : qv_V G X nL Q T cs pc lv (.int y :: .int x :: st) M o := fun a ha ls H locs h1 h2 h3 => va_mmax g.1 g.2.1 (by rw [g.2.2.1, h1.1]) g.2.2.2.1 (g.2.2.2.2.1 _ hl) (g.2.2.2.2.1 _ hs) (g.2.2.2.2.1 _ hi) (g.2.2.2.2.1 _ hw) g.2.2.2.2.2.2.2.2.1 (by have := g.2.2.2.2.2.2.2.2.2; omega) hc.1 hc.2 hd (k a ha ls H locs h1 h2 h3)
theorem qv_mmin (g : qv_ok G X cc own nL) {index : Nat} {x y : Int32} (hl : Cond.methodLink own index Lib.Math.min.name ∈ qv_gt) (hs : Cond.static Lib.Math.min.name ∈ qv_gt) (hi : Cond.initialized "java/lang/Math" ∈ qv_gt) (hw : Cond.code Lib.Math.min.name Lib.Math.min.code 2 (some .int) ∈ qv_gt) (hrs : (st.map fun v => v.category).sum ≤ 8) (hc : cs.1 ≤ (gR G).cells ∧ cs.2 ≤ (gR G).slots) (hd : decode cc pc = .ok (.invokestatic index, 3)) (k : qv_V G X nL Q T cs (pc + 3) lv (.int (if y < x then y else x) :: st) M o) : qv_V G X nL Q T cs pc lv (.int y :: .int x :: st) M o := fun a ha ls H locs h1 h2 h3 => va_mmin g.1 g.2.1 (by rw [g.2.2.1, h1.1]) g.2.2.2.1 (g.2.2.2.2.1 _ hl) (g.2.2.2.2.1 _ hs) (g.2.2.2.2.1 _ hi) (g.2.2.2.2.1 _ hw) g.2.2.2.2.2.2.2.2.1 (by have := g.2.2.2.2.2.2.2.2.2; omega) hc.1 hc.2 hd (k a ha ls H locs h1 h2 h3)
/-- the row of plain gates -/
theorem qv_gst (g : qv_ok G X cc own nL) {index : Nat} (hw : Cond.fieldLink own index "RootGates$Cliffords" "PLAIN_GATES" "[I" ∈ qv_gt) (hd : decode cc pc = .ok (.getstatic index, 3)) (k : qv_V G X nL Q T cs (pc + 3) lv (.ref X.2.2.1 :: st) M o) : qv_V G X nL Q T cs pc lv st M o := fun a ha ls H locs h1 h2 h3 => va_gets g.1 g.2.1 g.2.2.2.2.2.1.2.1 h3 g.2.2.2.1 (g.2.2.2.2.1 _ hw) (fun x h => h) hd (k a ha ls H locs h1 h2 h3)
theorem qv_plen (g : qv_ok G X cc own nL) (hd : decode cc pc = .ok (.arraylength, 1)) (k : qv_V G X nL Q T cs (pc + 1) lv (.int 5 :: st) M o) : qv_V G X nL Q T cs pc lv (.ref X.2.2.1 :: st) M o := by
  intro a ha ls H locs h1 h2 h3
  obtain ⟨cell, c1, c2, c3, c4, c5, c6, c7⟩ := g.2.2.2.2.2.1.2.2.1
  exact W.alen (n := 5) g.1 g.2.1 (by rw [h3.2.1 _ (Array.getElem?_eq_some_iff.mp c1).1 c7]; exact c1) c2 c5 rfl rfl hd (k a ha ls H locs h1 h2 h3)
theorem qv_pald (g : qv_ok G X cc own nL) {i : Int32} {kk : Int32 → Option α} (hd : decode cc pc = .ok (.iaload, 1)) (k : ∀ v, qv_V G X nL Q T cs (pc + 1) lv (.int v :: st) M (kk v)) : qv_V G X nL Q T cs pc lv (.int i :: .ref X.2.2.1 :: st) M (qv_ldP i kk) := by
  unfold qv_ldP
  refine qv_ite _ (fun hz => ?_) (fun _ => qv_none)
  have hin := qv_inb_in hz
  intro a ha ls H locs h1 h2 h3
  obtain ⟨cell, c1, c2, c3, c4, c5, c6, c7⟩ := g.2.2.2.2.2.1.2.2.1
  have hlt : i.toNatClampNeg < 5 := Nat.not_le.mp fun q => hin (Or.inr q)
  exact W.iald g.1 g.2.1 (by rw [h3.2.1 _ (Array.getElem?_eq_some_iff.mp c1).1 c7]; exact c1) c2 c3 (fun q => q.elim (fun q => hin (Or.inl q)) (fun q => by omega)) (c6 _ hlt) rfl rfl hd (k _ a ha ls H locs h1 h2 h3)
theorem qv_R {e dc maxL : Nat} (hRm : gR G = qv_rm e) (h : dc + 1 ≤ e) (hm : maxL ≤ 45) : dc + 2 ≤ (gR G).frames ∧ 19 + maxL + 64 * (dc + 1) ≤ (gR G).locals := by
  rw [hRm]
  show dc + 2 ≤ e + 1 ∧ 19 + maxL + 64 * (dc + 1) ≤ 64 * (e + 1)
  omega
/-- a switch goes to its default -/
theorem qv_tabD (g : qv_ok G X cc own nL) {dflt lo hi : Int} {offs : Array Int} {len n : Nat} {x : Int32} {tgt : Nat} {cl : List Int32} (hd : decode cc pc = .ok (.tableswitch dflt lo hi offs, len)) (hn : hi + 1 = lo + n) (hP : ∀ j, j < n → (∀ c ∈ cl, c.toInt ≠ lo + j) → offs[j]? = some dflt) (hx : ∀ c ∈ cl, ¬ x = c) (ht : (pc : Int) + dflt = (tgt : Int)) (k : qv_V G X nL Q T cs tgt lv st M o) : qv_V G X nL Q T cs pc lv (.int x :: st) M o := by
  by_cases h1 : x.toInt < lo
  · exact qv_tabO g hd (Or.inl h1) ht k
  by_cases h2 : hi < x.toInt
  · exact qv_tabO g hd (Or.inr h2) ht k
  refine qv_tabI g hd h1 h2 (hP (x.toInt - lo).toNat (by omega) (fun c hc e => hx c hc ?_)) ht k
  apply Int32.toInt_inj.mp
  omega
theorem qv_lookD (g : qv_ok G X cc own nL) {dflt : Int} {ps : Array (Int × Int)} {len : Nat} {x : Int32} {tgt : Nat} {cl : List Int32} (hd : decode cc pc = .ok (.lookupswitch dflt ps, len)) (hp : (ps.toList.zip (ps.toList.drop 1)).all (fun (a, next) => a.1 < next.1) = true) (hP : ps.toList.map (fun q => q.1) = cl.map (fun c => c.toInt)) (hx : ∀ c ∈ cl, ¬ x = c) (ht : (pc : Int) + dflt = (tgt : Int)) (k : qv_V G X nL Q T cs tgt lv st M o) : qv_V G X nL Q T cs pc lv (.int x :: st) M o := by
  refine qv_look g hd hp ?_ ht k
  exact qv_offD _ cl hP hx
theorem qv_copyI (g : qv_ok G X cc own nL) {index n0 n1 m0 m1 a0 a1 : Nat} {sp dp n : Int32} {kk : qv_Mem → Option α} (hl : Cond.methodLink own index arraycopyName ∈ qv_gt) (hnt : Cond.native arraycopyName ∈ qv_gt) (hst : Cond.static arraycopyName ∈ qv_gt) (hini : Cond.initialized "java/lang/System" ∈ qv_gt) (i0 : qv_is m0 T 20 n0 a0) (i1 : qv_is m1 T 20 n1 a1) (hrs : (st.map fun v => v.category).sum ≤ 8) (hd : decode cc pc = .ok (.invokestatic index, 3)) (h : ∀ M1, qv_V G X nL Q T cs (pc + 3) lv st M1 (kk M1)) : qv_V G X nL Q T cs pc lv (.int n :: .int dp :: .ref (X.2.2.2 + a1) :: .int sp :: .ref (X.2.2.2 + a0) :: st) M (qv_cc n0 sp n1 dp n (qv_jn (qv_cpI M a0 a1 sp.toNatClampNeg dp.toNatClampNeg n.toNatClampNeg) kk)) := by
  unfold qv_cc
  refine qv_ite _ (fun hz => ?_) (fun _ => qv_none)
  obtain ⟨z1, z2, z3, z4, z5⟩ := hz
  obtain ⟨f0, e0⟩ := i0.sh
  obtain ⟨f1, e1⟩ := i1.sh
  intro a ha ls H locs h1 h2 h3
  have hts := g.2.2.2.2.1
  have hK := g.2.2.2.2.2.1.1
  have nn : ∀ z : Int32, ¬ z < 0 → z.toInt = (z.toNatClampNeg : Int) := by
    intro z hz
    have hz0 : (0 : Int) ≤ z.toInt := by
      have := Int32.not_lt.mp hz
      simpa using Int32.le_iff_toInt_le.mp this
    show z.toInt = ((z.toInt.toNat : Nat) : Int)
    omega
  intro T0 hT X0
  have hc0 : H[X.2.2.2 + a0]? = some (vp_cell (X.2.1 20) (n0, .inl (M.1 a0))) := h2.2 a0 _ e0
  have hc1 : H[X.2.2.2 + a1]? = some (vp_cell (X.2.1 20) (n1, .inl (M.1 a1))) := h2.2 a1 _ e1
  obtain ⟨-, k0, hk0, cm0, hkk0⟩ := (hK.2 0 _ rfl).1 n0 (fun j => .int (M.1 a0 j))
  obtain ⟨vm', X', step⟩ := X0.arraycopy g.1 g.2.2.2.1 (hts _ hl) (hts _ hnt) (hts _ hst) (hts _ hini) (src := X.2.2.2 + a0) (dst := X.2.2.2 + a1) (cs := vp_cell (X.2.1 20) (n0, .inl (M.1 a0))) (cd := vp_cell (X.2.1 20) (n1, .inl (M.1 a1))) (srcPos := sp) (destPos := dp) (n := n) (by rw [hT]; exact hc0) (by rw [hT]; exact hc1)
    (fun _ h => by cases h) (fun _ h => by cases h) (fun h => by cases h) (fun h => by cases h) hk0 hk0 hkk0 hkk0 (by simp [refKind]) z1 z2 z3
    (by rw [nn sp z1, nn n z3]; show ¬ _ > ((arrV (X.2.1 20) n0 (fun j => .int (M.1 a0 j))).slots.size : Int); rw [arrV_size]; omega)
    (by rw [nn dp z2, nn n z3]; show ¬ _ > ((arrV (X.2.1 20) n1 (fun j => .int (M.1 a1 j))).slots.size : Int); rw [arrV_size]; omega)
    (fun vm₁ _ i hi => by
      have e : (vp_cell (X.2.1 20) (n0, .inl (M.1 a0))).slots.getD (sp.toNatClampNeg + i) .null = .int (M.1 a0 (sp.toNatClampNeg + i)) := by
        show (arrV (X.2.1 20) n0 (fun j => .int (M.1 a0 j))).slots.getD _ _ = _
        rw [Array.getD_eq_getD_getElem?, arrV_read _ _ (by omega)]
        rfl
      refine ⟨?_, ?_⟩
      · rw [e]; rfl
      · rw [e]
        exact trivial)
    (g := F0 (gm G) pc ls (.int n :: .int dp :: .ref (X.2.2.2 + a1) :: .int sp :: .ref (X.2.2.2 + a0) :: st)) rfl (by rw [g.2.2.1]; exact h1.1) (rest := st) rfl (by rw [g.2.1]; exact hd) g.2.2.2.2.2.2.2.2.1 (by have := g.2.2.2.2.2.2.2.2.2; show 2 * 0 + _ + (_ + _) ≤ _; have := (show nativeFrameWords "java/lang/System" "arraycopy" 5 + 11 ≤ 40 by decide); omega)
  have e1' : copied (vp_cell (X.2.1 20) (n0, .inl (M.1 a0))) (vp_cell (X.2.1 20) (n1, .inl (M.1 a1))) sp dp n = vp_cell (X.2.1 20) (n1, .inl (va_cpy (M.1 a0) (M.1 a1) sp.toNatClampNeg dp.toNatClampNeg n.toNatClampNeg)) := va_copied (fun z => .int z) (X.2.1 20) (X.2.1 20) (M.1 a0) (M.1 a1) z4
  rw [e1'] at X' step
  have hlt : X.2.2.2 + a1 < H.size := (Array.getElem?_eq_some_iff.mp hc1).1
  have hheap : ((T0.setVm vm').setCell (X.2.2.2 + a1) (vp_cell (X.2.1 20) (n1, .inl (va_cpy (M.1 a0) (M.1 a1) sp.toNatClampNeg dp.toNatClampNeg n.toNatClampNeg)))).heap = H.setIfInBounds (X.2.2.2 + a1) (vp_cell (X.2.1 20) (n1, .inl (va_cpy (M.1 a0) (M.1 a1) sp.toNatClampNeg dp.toNatClampNeg n.toNatClampNeg))) := by rw [← hT]; rfl
  have oq : ∀ q : Nat, q ≠ X.2.2.2 + a1 → (H.setIfInBounds (X.2.2.2 + a1) (vp_cell (X.2.1 20) (n1, .inl (va_cpy (M.1 a0) (M.1 a1) sp.toNatClampNeg dp.toNatClampNeg n.toNatClampNeg))))[q]? = H[q]? := fun q hq => by simp [Array.getElem?_setIfInBounds, Ne.symm hq]
  have hH := h2.wr (M1 := qv_cpI M a0 a1 sp.toNatClampNeg dp.toNatClampNeg n.toNatClampNeg) (id := a1) (H1 := H.setIfInBounds (X.2.2.2 + a1) (vp_cell (X.2.1 20) (n1, .inl (va_cpy (M.1 a0) (M.1 a1) sp.toNatClampNeg dp.toNatClampNeg n.toNatClampNeg)))) (by simp) oq (fun b hb => ⟨by funext j; simp [qv_cpI, hb], rfl, rfl⟩) (fun e he => by
    have : e = (20, n1, f1) := Option.some.inj (he.symm.trans e1)
    subst this
    show (H.setIfInBounds _ _)[X.2.2.2 + a1]? = some _
    rw [Array.getElem?_setIfInBounds]
    simp [hlt, qv_cpI])
  obtain ⟨t, b1, b2⟩ := h (qv_cpI M a0 a1 sp.toNatClampNeg dp.toNatClampNeg n.toNatClampNeg) a ha ls _ _ h1 hH ⟨by simp; exact h3.1, fun q g1 g2 => by
      rw [oq q (fun e => g2 (by rw [e]; show X.2.2.2 ≤ _; omega))]
      exact h3.2.1 q g1 g2, fun q hq => by
      rcases List.mem_append.mp hq with h | h
      · exact h3.2.2 q h
      · obtain ⟨z, -, hz⟩ := List.mem_map.mp h
        rw [← hz]
        show X.2.2.2 ≤ X.2.2.2 + a1
        omega⟩ _ hheap X'
  exact ⟨t, step t b1, b2⟩
theorem qv_copyL (g : qv_ok G X cc own nL) {index n0 n1 m0 m1 a0 a1 : Nat} {sp dp n : Int32} {kk : qv_Mem → Option α} (hl : Cond.methodLink own index arraycopyName ∈ qv_gt) (hnt : Cond.native arraycopyName ∈ qv_gt) (hst : Cond.static arraycopyName ∈ qv_gt) (hini : Cond.initialized "java/lang/System" ∈ qv_gt) (i0 : qv_is m0 T 21 n0 a0) (i1 : qv_is m1 T 21 n1 a1) (hrs : (st.map fun v => v.category).sum ≤ 8) (hd : decode cc pc = .ok (.invokestatic index, 3)) (h : ∀ M1, qv_V G X nL Q T cs (pc + 3) lv st M1 (kk M1)) : qv_V G X nL Q T cs pc lv (.int n :: .int dp :: .ref (X.2.2.2 + a1) :: .int sp :: .ref (X.2.2.2 + a0) :: st) M (qv_cc n0 sp n1 dp n (qv_jn (qv_cpL M a0 a1 sp.toNatClampNeg dp.toNatClampNeg n.toNatClampNeg) kk)) := by
  unfold qv_cc
  refine qv_ite _ (fun hz => ?_) (fun _ => qv_none)
  obtain ⟨z1, z2, z3, z4, z5⟩ := hz
  obtain ⟨f0, e0⟩ := i0.sh
  obtain ⟨f1, e1⟩ := i1.sh
  intro a ha ls H locs h1 h2 h3
  have hts := g.2.2.2.2.1
  have hK := g.2.2.2.2.2.1.1
  have nn : ∀ z : Int32, ¬ z < 0 → z.toInt = (z.toNatClampNeg : Int) := by
    intro z hz
    have hz0 : (0 : Int) ≤ z.toInt := by
      have := Int32.not_lt.mp hz
      simpa using Int32.le_iff_toInt_le.mp this
    show z.toInt = ((z.toInt.toNat : Nat) : Int)
    omega
  intro T0 hT X0
  have hc0 : H[X.2.2.2 + a0]? = some (vp_cell (X.2.1 21) (n0, .inr (.inl (M.2.1 a0)))) := h2.2 a0 _ e0
  have hc1 : H[X.2.2.2 + a1]? = some (vp_cell (X.2.1 21) (n1, .inr (.inl (M.2.1 a1)))) := h2.2 a1 _ e1
  obtain ⟨-, k0, hk0, cm0, hkk0⟩ := (hK.2 1 _ rfl).1 n0 (fun j => .long (M.2.1 a0 j))
  obtain ⟨vm', X', step⟩ := X0.arraycopy g.1 g.2.2.2.1 (hts _ hl) (hts _ hnt) (hts _ hst) (hts _ hini) (src := X.2.2.2 + a0) (dst := X.2.2.2 + a1) (cs := vp_cell (X.2.1 21) (n0, .inr (.inl (M.2.1 a0)))) (cd := vp_cell (X.2.1 21) (n1, .inr (.inl (M.2.1 a1)))) (srcPos := sp) (destPos := dp) (n := n) (by rw [hT]; exact hc0) (by rw [hT]; exact hc1)
    (fun _ h => by cases h) (fun _ h => by cases h) (fun h => by cases h) (fun h => by cases h) hk0 hk0 hkk0 hkk0 (by simp [refKind]) z1 z2 z3
    (by rw [nn sp z1, nn n z3]; show ¬ _ > ((arrV (X.2.1 21) n0 (fun j => .long (M.2.1 a0 j))).slots.size : Int); rw [arrV_size]; omega)
    (by rw [nn dp z2, nn n z3]; show ¬ _ > ((arrV (X.2.1 21) n1 (fun j => .long (M.2.1 a1 j))).slots.size : Int); rw [arrV_size]; omega)
    (fun vm₁ _ i hi => by
      have e : (vp_cell (X.2.1 21) (n0, .inr (.inl (M.2.1 a0)))).slots.getD (sp.toNatClampNeg + i) .null = .long (M.2.1 a0 (sp.toNatClampNeg + i)) := by
        show (arrV (X.2.1 21) n0 (fun j => .long (M.2.1 a0 j))).slots.getD _ _ = _
        rw [Array.getD_eq_getD_getElem?, arrV_read _ _ (by omega)]
        rfl
      refine ⟨?_, ?_⟩
      · rw [e]; rfl
      · rw [e]
        exact trivial)
    (g := F0 (gm G) pc ls (.int n :: .int dp :: .ref (X.2.2.2 + a1) :: .int sp :: .ref (X.2.2.2 + a0) :: st)) rfl (by rw [g.2.2.1]; exact h1.1) (rest := st) rfl (by rw [g.2.1]; exact hd) g.2.2.2.2.2.2.2.2.1 (by have := g.2.2.2.2.2.2.2.2.2; show 2 * 0 + _ + (_ + _) ≤ _; have := (show nativeFrameWords "java/lang/System" "arraycopy" 5 + 11 ≤ 40 by decide); omega)
  have e1' : copied (vp_cell (X.2.1 21) (n0, .inr (.inl (M.2.1 a0)))) (vp_cell (X.2.1 21) (n1, .inr (.inl (M.2.1 a1)))) sp dp n = vp_cell (X.2.1 21) (n1, .inr (.inl (va_cpy (M.2.1 a0) (M.2.1 a1) sp.toNatClampNeg dp.toNatClampNeg n.toNatClampNeg))) := va_copied (fun z => .long z) (X.2.1 21) (X.2.1 21) (M.2.1 a0) (M.2.1 a1) z4
  rw [e1'] at X' step
  have hlt : X.2.2.2 + a1 < H.size := (Array.getElem?_eq_some_iff.mp hc1).1
  have hheap : ((T0.setVm vm').setCell (X.2.2.2 + a1) (vp_cell (X.2.1 21) (n1, .inr (.inl (va_cpy (M.2.1 a0) (M.2.1 a1) sp.toNatClampNeg dp.toNatClampNeg n.toNatClampNeg))))).heap = H.setIfInBounds (X.2.2.2 + a1) (vp_cell (X.2.1 21) (n1, .inr (.inl (va_cpy (M.2.1 a0) (M.2.1 a1) sp.toNatClampNeg dp.toNatClampNeg n.toNatClampNeg)))) := by rw [← hT]; rfl
  have oq : ∀ q : Nat, q ≠ X.2.2.2 + a1 → (H.setIfInBounds (X.2.2.2 + a1) (vp_cell (X.2.1 21) (n1, .inr (.inl (va_cpy (M.2.1 a0) (M.2.1 a1) sp.toNatClampNeg dp.toNatClampNeg n.toNatClampNeg)))))[q]? = H[q]? := fun q hq => by simp [Array.getElem?_setIfInBounds, Ne.symm hq]
  have hH := h2.wr (M1 := qv_cpL M a0 a1 sp.toNatClampNeg dp.toNatClampNeg n.toNatClampNeg) (id := a1) (H1 := H.setIfInBounds (X.2.2.2 + a1) (vp_cell (X.2.1 21) (n1, .inr (.inl (va_cpy (M.2.1 a0) (M.2.1 a1) sp.toNatClampNeg dp.toNatClampNeg n.toNatClampNeg))))) (by simp) oq (fun b hb => ⟨rfl, by funext j; simp [qv_cpL, hb], rfl⟩) (fun e he => by
    have : e = (21, n1, f1) := Option.some.inj (he.symm.trans e1)
    subst this
    show (H.setIfInBounds _ _)[X.2.2.2 + a1]? = some _
    rw [Array.getElem?_setIfInBounds]
    simp [hlt, qv_cpL])
  obtain ⟨t, b1, b2⟩ := h (qv_cpL M a0 a1 sp.toNatClampNeg dp.toNatClampNeg n.toNatClampNeg) a ha ls _ _ h1 hH ⟨by simp; exact h3.1, fun q g1 g2 => by
      rw [oq q (fun e => g2 (by rw [e]; show X.2.2.2 ≤ _; omega))]
      exact h3.2.1 q g1 g2, fun q hq => by
      rcases List.mem_append.mp hq with h | h
      · exact h3.2.2 q h
      · obtain ⟨z, -, hz⟩ := List.mem_map.mp h
        rw [← hz]
        show X.2.2.2 ≤ X.2.2.2 + a1
        omega⟩ _ hheap X'
  exact ⟨t, step t b1, b2⟩
end QC
