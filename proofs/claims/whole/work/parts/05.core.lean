/-! THE CORE. Memory is three maps (ints, longs, scalar fields of cell number id); T says what each cell is: an object of a class number (0 .. 10), 20: int[], 21: long[], 30 + class: an array of such. A cell's address is B + its number. -/
abbrev qv_Ent : Type := Nat × Nat × List (Option (Option Nat))
abbrev qv_Mem : Type := (Nat → Nat → Int32) × (Nat → Nat → Int64) × (Nat → Nat → Int32)
abbrev qv_Res : Type := Option Value × qv_Mem
abbrev qv_X : Type := va_G × (Nat → ClassId) × Nat × Nat
abbrev qv_G : Type := Program × Launch × Env × Room × State × MethodId × Array Value × List Frame × Method × Code
def qv_fv (B : Nat) (s : Int32) (e : Option (Option Nat)) : Value := match e with
  | none => .int s
  | some r => va_rf (r.map (fun i => B + i))
def qv_fvs (B : Nat) (s : Nat → Int32) (fs : List (Option (Option Nat))) : List Value := (List.range fs.length).map (fun k => qv_fv B (s k) (fs.getD k none))
def qv_cel (X : qv_X) (e : qv_Ent) (i : Nat → Int32) (l : Nat → Int64) (s : Nat → Int32) : va_E :=
  if e.1 = 20 then .inl (X.2.1 20, e.2.1, .inl i)
  else if e.1 = 21 then .inl (X.2.1 21, e.2.1, .inr (.inl l))
  else if 30 ≤ e.1 then .inl (X.2.1 e.1, e.2.1, .inr (.inr (.inr (.inr (fun j => ((e.2.2.getD j none).getD none).map (fun i => X.2.2.2 + i))))))
  else .inr (e.1, qv_fvs X.2.2.2 s e.2.2)
def qv_Hp (X : qv_X) (T : List qv_Ent) (M : qv_Mem) (H : Heap) : Prop := H.size = X.2.2.2 + T.length ∧ ∀ (id : Nat) (e : qv_Ent), T[id]? = some e → va_at X.1 vwCl (X.2.2.2 + id, qv_cel X e (M.1 id) (M.2.1 id) (M.2.2 id)) H
def qv_tys (X : qv_X) : List (ClassId × FieldType) := [(X.2.1 20, .int), (X.2.1 21, .long), (X.2.1 37, .object RX7), (X.2.1 36, .object RX6)]
def qv_pg (j : Nat) : Int32 := ([0, 2, 3, 4, 5] : List Int32).getD j 0
def qv_A (X : qv_X) : Nat → Prop := fun q => X.2.2.2 ≤ q
def qv_gt : List Cond := lw_tbl.filter goodWord
theorem qv_gin {w : Cond} (i : Nat) (h : lw_tbl[i]? = some w) (hg : goodWord w = true) : w ∈ qv_gt := List.mem_filter.mpr ⟨List.mem_of_getElem? h, hg⟩
theorem qv_gsub {w : Cond} (h : w ∈ qv_gt) : w ∈ lw_tbl := (List.mem_filter.mp h).1
theorem qv_good (w : Cond) (h : w ∈ qv_gt) : w ∈ qv_gt ∧ ((w.onTables && w.keeps) = true ∨ ∃ ty, w = .arrayClass ty) := ⟨h, good_of_word (List.mem_filter.mp h).2⟩
def qv_Kd (X : qv_X) (U : State) (H : Heap) : Prop := va_K X.1 vwCl (qv_tys X) U ∧ va_Z "RootGates$Cliffords" "PLAIN_GATES" "[I" (.ref X.2.2.1) (qv_A X) U H ∧ va_T .int X.2.2.1 5 (fun j => .int (qv_pg j)) (qv_A X) U H ∧ (∀ w ∈ qv_nst, va_Nw w U) ∧ va_AO RX7 U ∧ va_AO RX6 U
theorem qv_Kd.go {X : qv_X} {s U : State} {H H1 : Heap} (h : qv_Kd X s H) (hW : s.WarmedH U.vm) (hq : ∀ a : Nat, a < H.size → ¬ qv_A X a → H1[a]? = H[a]?) : qv_Kd X U H1 := by
  obtain ⟨h1, h2, h3, h4, h5, h6⟩ := h
  refine ⟨va_K.moved hW.alike h1, (va_Z.moved hW.alike h2).kept hq, (va_T.moved hW.alike h3).kept hq, fun w hw => ?_, h5.moved hW.alike, h6.moved hW.alike⟩
  obtain ⟨a, i, x, hh, rfl⟩ := qv_nst_form w hw
  exact va_Nw.warmM hW (h4 _ hw)
def qv_Wd (X : qv_X) (T : List qv_Ent) (M : qv_Mem) (U : State) : Prop := qv_Hp X T M U.heap ∧ qv_Kd X U U.heap
abbrev gp (G : qv_G) : Program := G.1
abbrev gl (G : qv_G) : Launch := G.2.1
abbrev ge (G : qv_G) : Env := G.2.2.1
abbrev gR (G : qv_G) : Room := G.2.2.2.1
abbrev gs (G : qv_G) : State := G.2.2.2.2.1
abbrev gm (G : qv_G) : MethodId := G.2.2.2.2.2.1
abbrev ga (G : qv_G) : Array Value := G.2.2.2.2.2.2.1
abbrev gb (G : qv_G) : List Frame := G.2.2.2.2.2.2.2.1
abbrev gM (G : qv_G) : Method := G.2.2.2.2.2.2.2.2.1
abbrev gc (G : qv_G) : Code := G.2.2.2.2.2.2.2.2.2
def qv_V {α : Type} (G : qv_G) (X : qv_X) (nL : Nat) (Q : α → State → Prop) (T : List qv_Ent) (cs : Nat × Nat) (pc : Nat) (lv : List (Nat × Value)) (st : List Value) (M : qv_Mem) (o : Option α) : Prop :=
  ∀ a : α, o = some a → ∀ (ls : Array Slot) (H : Heap) (locs : List Loc), lv_has ls nL lv → qv_Hp X T M H → va_S (qv_A X) (gs G).heap H locs → W (gp G) (gl G) (ge G) (gR G) (gs G) (gm G) (ga G) (gb G) (gM G) (gc G) H locs cs.1 cs.2 (Q a) (F0 (gm G) pc ls st)
def qv_ok (G : qv_G) (X : qv_X) (cc : ByteArray) (own : String) (nL : Nat) : Prop :=
  (gp G).tables.exec = Jvm.exec ∧ (gc G).code = cc ∧ (gc G).maxLocals = nL ∧ (gs G).vm.findClass own = some (gm G).cls ∧ (∀ w ∈ qv_gt, w.before (ga G) (gs G) = true) ∧ qv_Kd X (gs G) (gs G).heap ∧ X.2.2.2 ≤ (gs G).heap.size ∧ (gM G).locks = false ∧ 1 ≤ (gR G).frames ∧ 64 ≤ (gR G).locals
def qv_inb (i : Int32) (n : Nat) : Bool := !(decide (i < 0) || decide (n ≤ i.toNatClampNeg))
theorem qv_inb_in {i : Int32} {n : Nat} (h : qv_inb i n = true) : vp_in i n := by
  simp only [qv_inb, Bool.not_eq_true', Bool.or_eq_false_iff, decide_eq_false_iff_not] at h
  exact fun q => q.elim h.1 h.2
theorem qv_inb_lt {i : Int32} {n : Nat} (h : qv_inb i n = true) : i.toNatClampNeg < n := Nat.not_le.mp fun q => qv_inb_in h (Or.inr q)
def qv_lk (lv : List (Nat × Value)) (i : Nat) : Option Value := lv.lookup i
theorem qv_lk_at {ls : Array Slot} {nL : Nat} {lv : List (Nat × Value)} (h : lv_has ls nL lv) {i : Nat} {v : Value} (hk : qv_lk lv i = some v) : ls[i]? = some (.val v) := by
  refine h.2.2 (i, v) ?_
  unfold qv_lk at hk
  induction lv with
  | nil => simp at hk
  | cons q l ih =>
    obtain ⟨j, u⟩ := q
    rw [List.lookup_cons] at hk
    by_cases e : i == j
    · rw [e] at hk
      have e2 : i = j := by simpa using e
      subst e2
      cases hk
      exact List.mem_cons_self
    · have e3 : (i == j) = false := by simpa using e
      rw [e3] at hk
      exact List.mem_cons_of_mem _ (ih ⟨h.1, h.2.1, fun q hq => h.2.2 q (List.mem_cons_of_mem _ hq)⟩ hk)
def qv_s1 (lv : List (Nat × Value)) (i : Nat) (v : Value) : List (Nat × Value) := (i, v) :: lv.filter (fun q => !(q.1 == i) && !(q.1 + 1 == i && q.2.category == 2))
def qv_s2 (lv : List (Nat × Value)) (i : Nat) (v : Value) : List (Nat × Value) := (i, v) :: lv.filter (fun q => !(q.1 == i) && (!(q.1 == i + 1) && !(q.1 + 1 == i && q.2.category == 2)))
/-- a continuation that several branches share -/
def qv_jn {β γ : Type} (k : β) (b : β → γ) : γ := b k
def qv_bo {β α : Type} (o : Option β) (k : β → Option α) : Option α := match o with
  | none => none
  | some b => k b
def qv_bp {β α : Type} (o : Option (β × qv_Mem)) (k : β → qv_Mem → Option α) : Option α := match o with
  | none => none
  | some b => k b.1 b.2
def qv_gd {α : Type} (b : Bool) (o : Option α) : Option α := if b = true then o else none
def qv_upI (M : qv_Mem) (id j : Nat) (v : Int32) : qv_Mem := (fun a b => if a = id ∧ b = j then v else M.1 a b, M.2.1, M.2.2)
def qv_upL (M : qv_Mem) (id j : Nat) (v : Int64) : qv_Mem := (M.1, fun a b => if a = id ∧ b = j then v else M.2.1 a b, M.2.2)
def qv_upS (M : qv_Mem) (id k : Nat) (v : Int32) : qv_Mem := (M.1, M.2.1, fun a b => if a = id ∧ b = k then v else M.2.2 a b)
def qv_cpI (M : qv_Mem) (a0 a1 sp dp n : Nat) : qv_Mem := (fun a b => if a = a1 then va_cpy (M.1 a0) (M.1 a1) sp dp n b else M.1 a b, M.2.1, M.2.2)
def qv_cpL (M : qv_Mem) (a0 a1 sp dp n : Nat) : qv_Mem := (M.1, fun a b => if a = a1 then va_cpy (M.2.1 a0) (M.2.1 a1) sp dp n b else M.2.1 a b, M.2.2)
def qv_ldI {α : Type} (n id : Nat) (i : Int32) (M : qv_Mem) (k : Int32 → Option α) : Option α := if qv_inb i n = true then k (M.1 id i.toNatClampNeg) else none
def qv_ldL {α : Type} (n id : Nat) (i : Int32) (M : qv_Mem) (k : Int64 → Option α) : Option α := if qv_inb i n = true then k (M.2.1 id i.toNatClampNeg) else none
def qv_stI {α : Type} (n id : Nat) (i : Int32) (v : Int32) (M : qv_Mem) (k : qv_Mem → Option α) : Option α := if qv_inb i n = true then k (qv_upI M id i.toNatClampNeg v) else none
def qv_stL {α : Type} (n id : Nat) (i : Int32) (v : Int64) (M : qv_Mem) (k : qv_Mem → Option α) : Option α := if qv_inb i n = true then k (qv_upL M id i.toNatClampNeg v) else none
def qv_ldP {α : Type} (i : Int32) (k : Int32 → Option α) : Option α := if qv_inb i 5 = true then k (qv_pg i.toNatClampNeg) else none
def qv_gS {α : Type} (id f : Nat) (M : qv_Mem) (k : Int32 → Option α) : Option α := k (M.2.2 id f)
def qv_pS {α : Type} (id f : Nat) (v : Int32) (M : qv_Mem) (k : qv_Mem → Option α) : Option α := k (qv_upS M id f v)
def qv_01 (v : Int32) : Bool := decide (v = 0) || decide (v = 1)
def qv_pZ {α : Type} (id f : Nat) (v : Int32) (M : qv_Mem) (k : qv_Mem → Option α) : Option α := if qv_01 v = true then k (qv_upS M id f v) else none
def qv_rf (T : List qv_Ent) (id k : Nat) : Nat := match T[id]? with
  | none => 0
  | some e => (((e.2.2.getD k none).getD none).getD 0)
def qv_cc {α : Type} (n0 : Nat) (sp : Int32) (n1 : Nat) (dp n : Int32) (o : Option α) : Option α := if ¬ sp < 0 ∧ ¬ dp < 0 ∧ ¬ n < 0 ∧ sp.toNatClampNeg + n.toNatClampNeg ≤ n0 ∧ dp.toNatClampNeg + n.toNatClampNeg ≤ n1 then o else none
/-- what is known of a cell: its kind, and to a depth n those that it refers to -/
def qv_is : Nat → List qv_Ent → Nat → Nat → Nat → Prop
  | 0, T, c, s, id => ∃ fs, T[id]? = some (c, s, fs)
  | n + 1, T, c, s, id => ∃ fs, T[id]? = some (c, s, fs) ∧ (c = 20 ∨ c = 21 ∨ (fs.length = s ∧ ∀ k, k < s → match qv_kd c k with
    | none => fs[k]? = some none
    | some q => ∃ r, fs[k]? = some (some (some r)) ∧ qv_is n T q.1 q.2 r))
theorem qv_is.sh {n : Nat} {T : List qv_Ent} {c s id : Nat} (h : qv_is n T c s id) : ∃ fs, T[id]? = some (c, s, fs) := by
  cases n with
  | zero => exact h
  | succ n => obtain ⟨fs, h1, -⟩ := h; exact ⟨fs, h1⟩
theorem qv_is.rf {n : Nat} {T : List qv_Ent} {c s id k c' s' : Nat} (h : qv_is (n + 1) T c s id) (hc : c ≠ 20 ∧ c ≠ 21) (hk : k < s) (hq : qv_kd c k = some (c', s')) : (∃ fs, T[id]? = some (c, s, fs) ∧ fs.length = s ∧ fs[k]? = some (some (some (qv_rf T id k)))) ∧ qv_is n T c' s' (qv_rf T id k) := by
  obtain ⟨fs, h1, h2⟩ := h
  rcases h2 with h2 | h2 | ⟨h2, h3⟩
  · exact absurd h2 hc.1
  · exact absurd h2 hc.2
  · have h4 := h3 k hk
    rw [hq] at h4
    obtain ⟨r, h5, h6⟩ := h4
    have e : qv_rf T id k = r := by
      unfold qv_rf
      rw [h1]
      show (((fs.getD k none).getD none).getD 0) = r
      rw [List.getD_eq_getElem?_getD, h5]
      rfl
    rw [e]
    exact ⟨⟨fs, h1, h2, h5⟩, h6⟩
theorem qv_is.to {n : Nat} {T : List qv_Ent} {c s id : Nat} (k : Nat) {c' s' : Nat} (h : qv_is (n + 1) T c s id) (hc : c ≠ 20 ∧ c ≠ 21) (hk : k < s) (hq : qv_kd c k = some (c', s')) : qv_is n T c' s' (qv_rf T id k) := (qv_is.rf h hc hk hq).2
theorem qv_is.sc {n : Nat} {T : List qv_Ent} {c s id k : Nat} (h : qv_is (n + 1) T c s id) (hc : c ≠ 20 ∧ c ≠ 21) (hk : k < s) (hq : qv_kd c k = none) : ∃ fs, T[id]? = some (c, s, fs) ∧ fs.length = s ∧ fs[k]? = some none := by
  obtain ⟨fs, h1, h2⟩ := h
  rcases h2 with h2 | h2 | ⟨h2, h3⟩
  · exact absurd h2 hc.1
  · exact absurd h2 hc.2
  · have h4 := h3 k hk
    rw [hq] at h4
    exact ⟨fs, h1, h2, h4⟩
theorem qv_fvs_len (B : Nat) (s : Nat → Int32) (fs : List (Option (Option Nat))) : (qv_fvs B s fs).length = fs.length := by simp [qv_fvs]
theorem qv_fvs_at {B : Nat} {s : Nat → Int32} {fs : List (Option (Option Nat))} {k : Nat} (h : k < fs.length) : (qv_fvs B s fs)[k]? = some (qv_fv B (s k) (fs.getD k none)) := by
  simp [qv_fvs, h]
theorem qv_cel_i (X : qv_X) (n : Nat) (fs : List (Option (Option Nat))) (i : Nat → Int32) (l : Nat → Int64) (s : Nat → Int32) : qv_cel X (20, n, fs) i l s = .inl (X.2.1 20, n, .inl i) := rfl
theorem qv_cel_l (X : qv_X) (n : Nat) (fs : List (Option (Option Nat))) (i : Nat → Int32) (l : Nat → Int64) (s : Nat → Int32) : qv_cel X (21, n, fs) i l s = .inl (X.2.1 21, n, .inr (.inl l)) := rfl
theorem qv_cel_o (X : qv_X) {c : Nat} (hc : c < 20) (n : Nat) (fs : List (Option (Option Nat))) (i : Nat → Int32) (l : Nat → Int64) (s : Nat → Int32) : qv_cel X (c, n, fs) i l s = .inr (c, qv_fvs X.2.2.2 s fs) := by
  unfold qv_cel
  rw [if_neg (by show ¬ c = 20; omega), if_neg (by show ¬ c = 21; omega), if_neg (by show ¬ 30 ≤ c; omega)]
theorem qv_cel_q (X : qv_X) {c : Nat} (hc : 30 ≤ c) (n : Nat) (fs : List (Option (Option Nat))) (i : Nat → Int32) (l : Nat → Int64) (s : Nat → Int32) : qv_cel X (c, n, fs) i l s = .inl (X.2.1 c, n, .inr (.inr (.inr (.inr (fun j => ((fs.getD j none).getD none).map (fun i => X.2.2.2 + i)))))) := by
  unfold qv_cel
  rw [if_neg (by show ¬ c = 20; omega), if_neg (by show ¬ c = 21; omega), if_pos hc]
/-- one cell alone, as the kit's rows take it -/
theorem qv_Hp.one {X : qv_X} {T : List qv_Ent} {M : qv_Mem} {H : Heap} (h : qv_Hp X T M H) {id : Nat} {e : qv_Ent} (he : T[id]? = some e) : va_P X.1 vwCl [(X.2.2.2 + id, qv_cel X e (M.1 id) (M.2.1 id) (M.2.2 id))] H := by
  intro k q hk
  have hz : k < 1 := (List.getElem?_eq_some_iff.mp hk).1
  have hk0 : k = 0 := by omega
  subst hk0
  cases hk
  exact h.2 id e he
/-- a cell is written: the others stay -/
theorem qv_Hp.wr {X : qv_X} {T : List qv_Ent} {M M1 : qv_Mem} {H H1 : Heap} (h : qv_Hp X T M H) {id : Nat} (hz : H1.size = H.size) (ho : ∀ q : Nat, q ≠ X.2.2.2 + id → H1[q]? = H[q]?) (hm : ∀ a, a ≠ id → M1.1 a = M.1 a ∧ M1.2.1 a = M.2.1 a ∧ M1.2.2 a = M.2.2 a) (hn : ∀ e, T[id]? = some e → va_at X.1 vwCl (X.2.2.2 + id, qv_cel X e (M1.1 id) (M1.2.1 id) (M1.2.2 id)) H1) : qv_Hp X T M1 H1 := by
  refine ⟨by rw [hz]; exact h.1, fun a e he => ?_⟩
  by_cases ha : a = id
  · subst ha
    exact hn e he
  · obtain ⟨m1, m2, m3⟩ := hm a ha
    rw [m1, m2, m3]
    exact (h.2 a e he).kept (ho _ (by show X.2.2.2 + a ≠ X.2.2.2 + id; omega))
section QV
variable {α : Type} {G : qv_G} {X : qv_X} {nL : Nat} {Q : α → State → Prop} {T : List qv_Ent} {cs : Nat × Nat} {pc : Nat} {lv : List (Nat × Value)} {st : List Value} {M : qv_Mem} {o o1 o2 : Option α} {cc : ByteArray} {own : String}
theorem qv_none : qv_V G X nL Q T cs pc lv st M none := fun a h => by cases h
theorem qv_eq (h : o = o1) (k : qv_V G X nL Q T cs pc lv st M o1) : qv_V G X nL Q T cs pc lv st M o := by rw [h]; exact k
theorem qv_lv {lv1 : List (Nat × Value)} (ks : List Nat) (h : lv_pick lv ks = lv1) (k : qv_V G X nL Q T cs pc lv1 st M o) : qv_V G X nL Q T cs pc lv st M o := fun a ha ls H locs h1 h2 h3 => k a ha ls H locs (lv_sub h1 ks h) h2 h3
theorem qv_ite {c : Prop} (d : Decidable c) (k1 : c → qv_V G X nL Q T cs pc lv st M o1) (k2 : ¬ c → qv_V G X nL Q T cs pc lv st M o2) : qv_V G X nL Q T cs pc lv st M (@ite _ c d o1 o2) := by
  by_cases h : c
  · rw [if_pos h]; exact k1 h
  · rw [if_neg h]; exact k2 h
theorem qv_join {β : Type} {k : β} {b : β → Option α} (P : β → Prop) (hk : P k) (hb : ∀ k1, P k1 → qv_V G X nL Q T cs pc lv st M (b k1)) : qv_V G X nL Q T cs pc lv st M (qv_jn k b) := hb k hk

theorem qv_iconst (g : qv_ok G X cc own nL) {n : Int} {v : Int32} (hd : decode cc pc = .ok (.iconst n, 1)) (hv : Int32.ofInt n = v) (k : qv_V G X nL Q T cs (pc + 1) lv (.int v :: st) M o) : qv_V G X nL Q T cs pc lv (st) M o := fun a ha ls H locs h1 h2 h3 => lv_iconst g.1 g.2.1 hd hv (k a ha ls H locs h1 h2 h3)
theorem qv_bipush (g : qv_ok G X cc own nL) {n : Int} {v : Int32} (hd : decode cc pc = .ok (.bipush n, 2)) (hv : (Int8.ofInt n).toInt32 = v) (k : qv_V G X nL Q T cs (pc + 2) lv (.int v :: st) M o) : qv_V G X nL Q T cs pc lv (st) M o := fun a ha ls H locs h1 h2 h3 => lv_bipush g.1 g.2.1 hd hv (k a ha ls H locs h1 h2 h3)
theorem qv_sipush (g : qv_ok G X cc own nL) {n : Int} {v : Int32} (hd : decode cc pc = .ok (.sipush n, 3)) (hv : (Int16.ofInt n).toInt32 = v) (k : qv_V G X nL Q T cs (pc + 3) lv (.int v :: st) M o) : qv_V G X nL Q T cs pc lv (st) M o := fun a ha ls H locs h1 h2 h3 => lv_sipush g.1 g.2.1 hd hv (k a ha ls H locs h1 h2 h3)
theorem qv_lconst (g : qv_ok G X cc own nL) {n : Fin 2} {v : Int64} (hd : decode cc pc = .ok (.lconst n, 1)) (hv : Int64.ofNat (n : Nat) = v) (k : qv_V G X nL Q T cs (pc + 1) lv (.long v :: st) M o) : qv_V G X nL Q T cs pc lv (st) M o := fun a ha ls H locs h1 h2 h3 => lv_lconst g.1 g.2.1 hd hv (k a ha ls H locs h1 h2 h3)
theorem qv_iload_n (g : qv_ok G X cc own nL) {k : Fin 4} {i : Nat} {x : Int32} (hd : decode cc pc = .ok (.iload_n k, 1)) (hi : (k : Nat) = i) (hl : qv_lk lv i = some (.int x)) (kk : qv_V G X nL Q T cs (pc + 1) lv (.int x :: st) M o) : qv_V G X nL Q T cs pc lv st M o := fun a ha ls H locs h1 h2 h3 => lv_iload_n g.1 g.2.1 hd hi (qv_lk_at h1 hl) (kk a ha ls H locs h1 h2 h3)
theorem qv_iload (g : qv_ok G X cc own nL) {i : Nat} {x : Int32} (hd : decode cc pc = .ok (.iload i, 2)) (hl : qv_lk lv i = some (.int x)) (kk : qv_V G X nL Q T cs (pc + 2) lv (.int x :: st) M o) : qv_V G X nL Q T cs pc lv st M o := fun a ha ls H locs h1 h2 h3 => lv_iload g.1 g.2.1 hd (qv_lk_at h1 hl) (kk a ha ls H locs h1 h2 h3)
theorem qv_istore_n (g : qv_ok G X cc own nL) {k : Fin 4} {i : Nat} {x : Int32} {lv1 : List (Nat × Value)} (hd : decode cc pc = .ok (.istore_n k, 1)) (hi : (k : Nat) = i) (hn : i < nL) (hl : qv_s1 lv i (.int x) = lv1) (kk : qv_V G X nL Q T cs (pc + 1) lv1 st M o) : qv_V G X nL Q T cs pc lv (.int x :: st) M o := fun a ha ls H locs h1 h2 h3 => lv_istore_n g.1 g.2.1 hd hi h1 hn hl (fun ls1 h4 => kk a ha ls1 H locs h4 h2 h3)
theorem qv_istore (g : qv_ok G X cc own nL) {i : Nat} {x : Int32} {lv1 : List (Nat × Value)} (hd : decode cc pc = .ok (.istore i, 2)) (hn : i < nL) (hl : qv_s1 lv i (.int x) = lv1) (kk : qv_V G X nL Q T cs (pc + 2) lv1 st M o) : qv_V G X nL Q T cs pc lv (.int x :: st) M o := fun a ha ls H locs h1 h2 h3 => lv_istore g.1 g.2.1 hd h1 hn hl (fun ls1 h4 => kk a ha ls1 H locs h4 h2 h3)
theorem qv_lload_n (g : qv_ok G X cc own nL) {k : Fin 4} {i : Nat} {x : Int64} (hd : decode cc pc = .ok (.lload_n k, 1)) (hi : (k : Nat) = i) (hl : qv_lk lv i = some (.long x)) (kk : qv_V G X nL Q T cs (pc + 1) lv (.long x :: st) M o) : qv_V G X nL Q T cs pc lv st M o := fun a ha ls H locs h1 h2 h3 => lv_lload_n g.1 g.2.1 hd hi (qv_lk_at h1 hl) (kk a ha ls H locs h1 h2 h3)
theorem qv_lload (g : qv_ok G X cc own nL) {i : Nat} {x : Int64} (hd : decode cc pc = .ok (.lload i, 2)) (hl : qv_lk lv i = some (.long x)) (kk : qv_V G X nL Q T cs (pc + 2) lv (.long x :: st) M o) : qv_V G X nL Q T cs pc lv st M o := fun a ha ls H locs h1 h2 h3 => lv_lload g.1 g.2.1 hd (qv_lk_at h1 hl) (kk a ha ls H locs h1 h2 h3)
theorem qv_lstore_n (g : qv_ok G X cc own nL) {k : Fin 4} {i : Nat} {x : Int64} {lv1 : List (Nat × Value)} (hd : decode cc pc = .ok (.lstore_n k, 1)) (hi : (k : Nat) = i) (hn : i + 1 < nL) (hl : qv_s2 lv i (.long x) = lv1) (kk : qv_V G X nL Q T cs (pc + 1) lv1 st M o) : qv_V G X nL Q T cs pc lv (.long x :: st) M o := fun a ha ls H locs h1 h2 h3 => lv_lstore_n g.1 g.2.1 hd hi h1 hn hl (fun ls1 h4 => kk a ha ls1 H locs h4 h2 h3)
theorem qv_lstore (g : qv_ok G X cc own nL) {i : Nat} {x : Int64} {lv1 : List (Nat × Value)} (hd : decode cc pc = .ok (.lstore i, 2)) (hn : i + 1 < nL) (hl : qv_s2 lv i (.long x) = lv1) (kk : qv_V G X nL Q T cs (pc + 2) lv1 st M o) : qv_V G X nL Q T cs pc lv (.long x :: st) M o := fun a ha ls H locs h1 h2 h3 => lv_lstore g.1 g.2.1 hd h1 hn hl (fun ls1 h4 => kk a ha ls1 H locs h4 h2 h3)
theorem qv_aload_n (g : qv_ok G X cc own nL) {k : Fin 4} {i : Nat} {x : Nat} (hd : decode cc pc = .ok (.aload_n k, 1)) (hi : (k : Nat) = i) (hl : qv_lk lv i = some (.ref x)) (kk : qv_V G X nL Q T cs (pc + 1) lv (.ref x :: st) M o) : qv_V G X nL Q T cs pc lv st M o := fun a ha ls H locs h1 h2 h3 => lv_aload_n g.1 g.2.1 hd hi (qv_lk_at h1 hl) (kk a ha ls H locs h1 h2 h3)
theorem qv_aload (g : qv_ok G X cc own nL) {i : Nat} {x : Nat} (hd : decode cc pc = .ok (.aload i, 2)) (hl : qv_lk lv i = some (.ref x)) (kk : qv_V G X nL Q T cs (pc + 2) lv (.ref x :: st) M o) : qv_V G X nL Q T cs pc lv st M o := fun a ha ls H locs h1 h2 h3 => lv_aload g.1 g.2.1 hd (qv_lk_at h1 hl) (kk a ha ls H locs h1 h2 h3)
theorem qv_astore_n (g : qv_ok G X cc own nL) {k : Fin 4} {i : Nat} {x : Nat} {lv1 : List (Nat × Value)} (hd : decode cc pc = .ok (.astore_n k, 1)) (hi : (k : Nat) = i) (hn : i < nL) (hl : qv_s1 lv i (.ref x) = lv1) (kk : qv_V G X nL Q T cs (pc + 1) lv1 st M o) : qv_V G X nL Q T cs pc lv (.ref x :: st) M o := fun a ha ls H locs h1 h2 h3 => lv_astore_n g.1 g.2.1 hd hi h1 hn hl (fun ls1 h4 => kk a ha ls1 H locs h4 h2 h3)
theorem qv_astore (g : qv_ok G X cc own nL) {i : Nat} {x : Nat} {lv1 : List (Nat × Value)} (hd : decode cc pc = .ok (.astore i, 2)) (hn : i < nL) (hl : qv_s1 lv i (.ref x) = lv1) (kk : qv_V G X nL Q T cs (pc + 2) lv1 st M o) : qv_V G X nL Q T cs pc lv (.ref x :: st) M o := fun a ha ls H locs h1 h2 h3 => lv_astore g.1 g.2.1 hd h1 hn hl (fun ls1 h4 => kk a ha ls1 H locs h4 h2 h3)
theorem qv_lk_mem {lv : List (Nat × Value)} {i : Nat} {v : Value} (hk : qv_lk lv i = some v) : ∃ k : Nat, lv[k]? = some (i, v) := by
  unfold qv_lk at hk
  induction lv with
  | nil => simp at hk
  | cons q l ih =>
    obtain ⟨j, u⟩ := q
    rw [List.lookup_cons] at hk
    by_cases e : i == j
    · rw [e] at hk
      have e2 : i = j := by simpa using e
      subst e2
      cases hk
      exact ⟨0, rfl⟩
    · have e3 : (i == j) = false := by simpa using e
      rw [e3] at hk
      obtain ⟨k, h⟩ := ih hk
      exact ⟨k + 1, h⟩
theorem qv_iinc (g : qv_ok G X cc own nL) {i : Nat} {n : Int} {x v : Int32} {lv1 : List (Nat × Value)} (hd : decode cc pc = .ok (.iinc i n, 3)) (hk : qv_lk lv i = some (.int x)) (hv : x + Int32.ofInt n = v) (hn : i < nL) (hl : qv_s1 lv i (.int v) = lv1) (kk : qv_V G X nL Q T cs (pc + 3) lv1 st M o) : qv_V G X nL Q T cs pc lv st M o := by
  intro a ha ls H locs h1 h2 h3
  obtain ⟨k, hk1⟩ := qv_lk_mem hk
  exact lv_iinc g.1 g.2.1 hd h1 hk1 hv hn hl (fun ls1 h4 => kk a ha ls1 H locs h4 h2 h3)
theorem qv_iadd (g : qv_ok G X cc own nL) {x y : Int32} (hd : decode cc pc = .ok (.iadd, 1)) (k : qv_V G X nL Q T cs (pc + 1) lv (.int (x + y) :: st) M o) : qv_V G X nL Q T cs pc lv (.int y :: .int x :: st) M o := fun a ha ls H locs h1 h2 h3 => lv_iadd g.1 g.2.1 hd (k a ha ls H locs h1 h2 h3)
theorem qv_isub (g : qv_ok G X cc own nL) {x y : Int32} (hd : decode cc pc = .ok (.isub, 1)) (k : qv_V G X nL Q T cs (pc + 1) lv (.int (x - y) :: st) M o) : qv_V G X nL Q T cs pc lv (.int y :: .int x :: st) M o := fun a ha ls H locs h1 h2 h3 => lv_isub g.1 g.2.1 hd (k a ha ls H locs h1 h2 h3)
theorem qv_imul (g : qv_ok G X cc own nL) {x y : Int32} (hd : decode cc pc = .ok (.imul, 1)) (k : qv_V G X nL Q T cs (pc + 1) lv (.int (x * y) :: st) M o) : qv_V G X nL Q T cs pc lv (.int y :: .int x :: st) M o := fun a ha ls H locs h1 h2 h3 => lv_imul g.1 g.2.1 hd (k a ha ls H locs h1 h2 h3)
theorem qv_iand (g : qv_ok G X cc own nL) {x y : Int32} (hd : decode cc pc = .ok (.iand, 1)) (k : qv_V G X nL Q T cs (pc + 1) lv (.int (x &&& y) :: st) M o) : qv_V G X nL Q T cs pc lv (.int y :: .int x :: st) M o := fun a ha ls H locs h1 h2 h3 => lv_iand g.1 g.2.1 hd (k a ha ls H locs h1 h2 h3)
theorem qv_ior (g : qv_ok G X cc own nL) {x y : Int32} (hd : decode cc pc = .ok (.ior, 1)) (k : qv_V G X nL Q T cs (pc + 1) lv (.int (x ||| y) :: st) M o) : qv_V G X nL Q T cs pc lv (.int y :: .int x :: st) M o := fun a ha ls H locs h1 h2 h3 => lv_ior g.1 g.2.1 hd (k a ha ls H locs h1 h2 h3)
theorem qv_ishl (g : qv_ok G X cc own nL) {x y : Int32} (hd : decode cc pc = .ok (.ishl, 1)) (k : qv_V G X nL Q T cs (pc + 1) lv (.int (x <<< (y &&& 31)) :: st) M o) : qv_V G X nL Q T cs pc lv (.int y :: .int x :: st) M o := fun a ha ls H locs h1 h2 h3 => lv_ishl g.1 g.2.1 hd (k a ha ls H locs h1 h2 h3)
theorem qv_idiv (g : qv_ok G X cc own nL) {x y : Int32} (hd : decode cc pc = .ok (.idiv, 1)) (hne : ¬ y = 0) (k : qv_V G X nL Q T cs (pc + 1) lv (.int (x / y) :: st) M o) : qv_V G X nL Q T cs pc lv (.int y :: .int x :: st) M o := fun a ha ls H locs h1 h2 h3 => lv_idiv g.1 g.2.1 hd hne (k a ha ls H locs h1 h2 h3)
theorem qv_irem (g : qv_ok G X cc own nL) {x y : Int32} (hd : decode cc pc = .ok (.irem, 1)) (hne : ¬ y = 0) (k : qv_V G X nL Q T cs (pc + 1) lv (.int (x - x / y * y) :: st) M o) : qv_V G X nL Q T cs pc lv (.int y :: .int x :: st) M o := fun a ha ls H locs h1 h2 h3 => lv_irem g.1 g.2.1 hd hne (k a ha ls H locs h1 h2 h3)
theorem qv_ladd (g : qv_ok G X cc own nL) {x y : Int64} (hd : decode cc pc = .ok (.ladd, 1)) (k : qv_V G X nL Q T cs (pc + 1) lv (.long (x + y) :: st) M o) : qv_V G X nL Q T cs pc lv (.long y :: .long x :: st) M o := fun a ha ls H locs h1 h2 h3 => lv_ladd g.1 g.2.1 hd (k a ha ls H locs h1 h2 h3)
theorem qv_lsub (g : qv_ok G X cc own nL) {x y : Int64} (hd : decode cc pc = .ok (.lsub, 1)) (k : qv_V G X nL Q T cs (pc + 1) lv (.long (x - y) :: st) M o) : qv_V G X nL Q T cs pc lv (.long y :: .long x :: st) M o := fun a ha ls H locs h1 h2 h3 => lv_lsub g.1 g.2.1 hd (k a ha ls H locs h1 h2 h3)
theorem qv_lmul (g : qv_ok G X cc own nL) {x y : Int64} (hd : decode cc pc = .ok (.lmul, 1)) (k : qv_V G X nL Q T cs (pc + 1) lv (.long (x * y) :: st) M o) : qv_V G X nL Q T cs pc lv (.long y :: .long x :: st) M o := fun a ha ls H locs h1 h2 h3 => lv_lmul g.1 g.2.1 hd (k a ha ls H locs h1 h2 h3)
theorem qv_land (g : qv_ok G X cc own nL) {x y : Int64} (hd : decode cc pc = .ok (.land, 1)) (k : qv_V G X nL Q T cs (pc + 1) lv (.long (x &&& y) :: st) M o) : qv_V G X nL Q T cs pc lv (.long y :: .long x :: st) M o := fun a ha ls H locs h1 h2 h3 => lv_land g.1 g.2.1 hd (k a ha ls H locs h1 h2 h3)
theorem qv_ldiv (g : qv_ok G X cc own nL) {x y : Int64} (hd : decode cc pc = .ok (.ldiv, 1)) (hne : ¬ y = 0) (k : qv_V G X nL Q T cs (pc + 1) lv (.long (x / y) :: st) M o) : qv_V G X nL Q T cs pc lv (.long y :: .long x :: st) M o := fun a ha ls H locs h1 h2 h3 => lv_ldiv g.1 g.2.1 hd hne (k a ha ls H locs h1 h2 h3)
theorem qv_lrem (g : qv_ok G X cc own nL) {x y : Int64} (hd : decode cc pc = .ok (.lrem, 1)) (hne : ¬ y = 0) (k : qv_V G X nL Q T cs (pc + 1) lv (.long (x - x / y * y) :: st) M o) : qv_V G X nL Q T cs pc lv (.long y :: .long x :: st) M o := fun a ha ls H locs h1 h2 h3 => lv_lrem g.1 g.2.1 hd hne (k a ha ls H locs h1 h2 h3)
theorem qv_lneg (g : qv_ok G X cc own nL) {x : Int64} (hd : decode cc pc = .ok (.lneg, 1)) (k : qv_V G X nL Q T cs (pc + 1) lv (.long (-x) :: st) M o) : qv_V G X nL Q T cs pc lv (.long x :: st) M o := fun a ha ls H locs h1 h2 h3 => lv_lneg g.1 g.2.1 hd (k a ha ls H locs h1 h2 h3)
theorem qv_lcmp (g : qv_ok G X cc own nL) {x y : Int64} (hd : decode cc pc = .ok (.lcmp, 1)) (k : qv_V G X nL Q T cs (pc + 1) lv (.int (lg_cmp x y) :: st) M o) : qv_V G X nL Q T cs pc lv (.long y :: .long x :: st) M o := fun a ha ls H locs h1 h2 h3 => W.lcmp g.1 g.2.1 hd (k a ha ls H locs h1 h2 h3)
theorem qv_i2l (g : qv_ok G X cc own nL) {x : Int32} (hd : decode cc pc = .ok (.i2l, 1)) (k : qv_V G X nL Q T cs (pc + 1) lv (.long x.toInt64 :: st) M o) : qv_V G X nL Q T cs pc lv (.int x :: st) M o := fun a ha ls H locs h1 h2 h3 => lv_i2l g.1 g.2.1 hd rfl (k a ha ls H locs h1 h2 h3)
theorem qv_l2i (g : qv_ok G X cc own nL) {x : Int64} (hd : decode cc pc = .ok (.l2i, 1)) (k : qv_V G X nL Q T cs (pc + 1) lv (.int x.toInt32 :: st) M o) : qv_V G X nL Q T cs pc lv (.long x :: st) M o := fun a ha ls H locs h1 h2 h3 => lv_l2i g.1 g.2.1 hd rfl (k a ha ls H locs h1 h2 h3)
theorem qv_dup (g : qv_ok G X cc own nL) {va : Value} (hd : decode cc pc = .ok (.dup, 1)) (hva : va.category = 1) (k : qv_V G X nL Q T cs (pc + 1) lv (va :: va :: st) M o) : qv_V G X nL Q T cs pc lv (va :: st) M o := fun a ha ls H locs h1 h2 h3 => lv_dup g.1 g.2.1 hd hva (k a ha ls H locs h1 h2 h3)
theorem qv_pop (g : qv_ok G X cc own nL) {va : Value} (hd : decode cc pc = .ok (.pop, 1)) (hva : va.category = 1) (k : qv_V G X nL Q T cs (pc + 1) lv (st) M o) : qv_V G X nL Q T cs pc lv (va :: st) M o := fun a ha ls H locs h1 h2 h3 => lv_pop g.1 g.2.1 hd hva (k a ha ls H locs h1 h2 h3)
theorem qv_dup2 (g : qv_ok G X cc own nL) {va vb : Value} (hd : decode cc pc = .ok (.dup2, 1)) (hva : va.category = 1) (hvb : vb.category = 1) (k : qv_V G X nL Q T cs (pc + 1) lv (va :: vb :: va :: vb :: st) M o) : qv_V G X nL Q T cs pc lv (va :: vb :: st) M o := fun a ha ls H locs h1 h2 h3 => lv_dup2_11 g.1 g.2.1 hd hva hvb (k a ha ls H locs h1 h2 h3)
theorem qv_if_eq (g : qv_ok G X cc own nL) {x : Int32} {off : Int} {tgt : Nat} (hd : decode cc pc = .ok (.ifCond .eq off, 3)) (ht : (pc : Int) + off = (tgt : Int)) (k1 : qv_V G X nL Q T cs tgt lv st M o1) (k2 : qv_V G X nL Q T cs (pc + 3) lv st M o2) : qv_V G X nL Q T cs pc lv (.int x :: st) M (if x = 0 then o1 else o2) := fun a ha ls H locs h1 h2 h3 => lv_if_eq g.1 g.2.1 hd ht (fun c => k1 a (by rw [if_pos c] at ha; exact ha) ls H locs h1 h2 h3) (fun c => k2 a (by rw [if_neg c] at ha; exact ha) ls H locs h1 h2 h3)
theorem qv_icmp_eq (g : qv_ok G X cc own nL) {x y : Int32} {off : Int} {tgt : Nat} (hd : decode cc pc = .ok (.if_icmp .eq off, 3)) (ht : (pc : Int) + off = (tgt : Int)) (k1 : qv_V G X nL Q T cs tgt lv st M o1) (k2 : qv_V G X nL Q T cs (pc + 3) lv st M o2) : qv_V G X nL Q T cs pc lv (.int y :: .int x :: st) M (if x = y then o1 else o2) := fun a ha ls H locs h1 h2 h3 => lv_icmp_eq g.1 g.2.1 hd ht (fun c => k1 a (by rw [if_pos c] at ha; exact ha) ls H locs h1 h2 h3) (fun c => k2 a (by rw [if_neg c] at ha; exact ha) ls H locs h1 h2 h3)
theorem qv_if_ne (g : qv_ok G X cc own nL) {x : Int32} {off : Int} {tgt : Nat} (hd : decode cc pc = .ok (.ifCond .ne off, 3)) (ht : (pc : Int) + off = (tgt : Int)) (k1 : qv_V G X nL Q T cs tgt lv st M o1) (k2 : qv_V G X nL Q T cs (pc + 3) lv st M o2) : qv_V G X nL Q T cs pc lv (.int x :: st) M (if x = 0 then o2 else o1) := fun a ha ls H locs h1 h2 h3 => lv_if_ne g.1 g.2.1 hd ht (fun c => k1 a (by rw [if_neg c] at ha; exact ha) ls H locs h1 h2 h3) (fun c => k2 a (by rw [if_pos c] at ha; exact ha) ls H locs h1 h2 h3)
theorem qv_icmp_ne (g : qv_ok G X cc own nL) {x y : Int32} {off : Int} {tgt : Nat} (hd : decode cc pc = .ok (.if_icmp .ne off, 3)) (ht : (pc : Int) + off = (tgt : Int)) (k1 : qv_V G X nL Q T cs tgt lv st M o1) (k2 : qv_V G X nL Q T cs (pc + 3) lv st M o2) : qv_V G X nL Q T cs pc lv (.int y :: .int x :: st) M (if x = y then o2 else o1) := fun a ha ls H locs h1 h2 h3 => lv_icmp_ne g.1 g.2.1 hd ht (fun c => k1 a (by rw [if_neg c] at ha; exact ha) ls H locs h1 h2 h3) (fun c => k2 a (by rw [if_pos c] at ha; exact ha) ls H locs h1 h2 h3)
theorem qv_if_lt (g : qv_ok G X cc own nL) {x : Int32} {off : Int} {tgt : Nat} (hd : decode cc pc = .ok (.ifCond .lt off, 3)) (ht : (pc : Int) + off = (tgt : Int)) (k1 : qv_V G X nL Q T cs tgt lv st M o1) (k2 : qv_V G X nL Q T cs (pc + 3) lv st M o2) : qv_V G X nL Q T cs pc lv (.int x :: st) M (if x < 0 then o1 else o2) := fun a ha ls H locs h1 h2 h3 => lv_if_lt g.1 g.2.1 hd ht (fun c => k1 a (by rw [if_pos c] at ha; exact ha) ls H locs h1 h2 h3) (fun c => k2 a (by rw [if_neg c] at ha; exact ha) ls H locs h1 h2 h3)
theorem qv_icmp_lt (g : qv_ok G X cc own nL) {x y : Int32} {off : Int} {tgt : Nat} (hd : decode cc pc = .ok (.if_icmp .lt off, 3)) (ht : (pc : Int) + off = (tgt : Int)) (k1 : qv_V G X nL Q T cs tgt lv st M o1) (k2 : qv_V G X nL Q T cs (pc + 3) lv st M o2) : qv_V G X nL Q T cs pc lv (.int y :: .int x :: st) M (if x < y then o1 else o2) := fun a ha ls H locs h1 h2 h3 => lv_icmp_lt g.1 g.2.1 hd ht (fun c => k1 a (by rw [if_pos c] at ha; exact ha) ls H locs h1 h2 h3) (fun c => k2 a (by rw [if_neg c] at ha; exact ha) ls H locs h1 h2 h3)
theorem qv_if_ge (g : qv_ok G X cc own nL) {x : Int32} {off : Int} {tgt : Nat} (hd : decode cc pc = .ok (.ifCond .ge off, 3)) (ht : (pc : Int) + off = (tgt : Int)) (k1 : qv_V G X nL Q T cs tgt lv st M o1) (k2 : qv_V G X nL Q T cs (pc + 3) lv st M o2) : qv_V G X nL Q T cs pc lv (.int x :: st) M (if 0 ≤ x then o1 else o2) := fun a ha ls H locs h1 h2 h3 => lv_if_ge g.1 g.2.1 hd ht (fun c => k1 a (by rw [if_pos c] at ha; exact ha) ls H locs h1 h2 h3) (fun c => k2 a (by rw [if_neg c] at ha; exact ha) ls H locs h1 h2 h3)
theorem qv_icmp_ge (g : qv_ok G X cc own nL) {x y : Int32} {off : Int} {tgt : Nat} (hd : decode cc pc = .ok (.if_icmp .ge off, 3)) (ht : (pc : Int) + off = (tgt : Int)) (k1 : qv_V G X nL Q T cs tgt lv st M o1) (k2 : qv_V G X nL Q T cs (pc + 3) lv st M o2) : qv_V G X nL Q T cs pc lv (.int y :: .int x :: st) M (if y ≤ x then o1 else o2) := fun a ha ls H locs h1 h2 h3 => lv_icmp_ge g.1 g.2.1 hd ht (fun c => k1 a (by rw [if_pos c] at ha; exact ha) ls H locs h1 h2 h3) (fun c => k2 a (by rw [if_neg c] at ha; exact ha) ls H locs h1 h2 h3)
theorem qv_if_gt (g : qv_ok G X cc own nL) {x : Int32} {off : Int} {tgt : Nat} (hd : decode cc pc = .ok (.ifCond .gt off, 3)) (ht : (pc : Int) + off = (tgt : Int)) (k1 : qv_V G X nL Q T cs tgt lv st M o1) (k2 : qv_V G X nL Q T cs (pc + 3) lv st M o2) : qv_V G X nL Q T cs pc lv (.int x :: st) M (if 0 < x then o1 else o2) := fun a ha ls H locs h1 h2 h3 => lv_if_gt g.1 g.2.1 hd ht (fun c => k1 a (by rw [if_pos c] at ha; exact ha) ls H locs h1 h2 h3) (fun c => k2 a (by rw [if_neg c] at ha; exact ha) ls H locs h1 h2 h3)
theorem qv_icmp_gt (g : qv_ok G X cc own nL) {x y : Int32} {off : Int} {tgt : Nat} (hd : decode cc pc = .ok (.if_icmp .gt off, 3)) (ht : (pc : Int) + off = (tgt : Int)) (k1 : qv_V G X nL Q T cs tgt lv st M o1) (k2 : qv_V G X nL Q T cs (pc + 3) lv st M o2) : qv_V G X nL Q T cs pc lv (.int y :: .int x :: st) M (if y < x then o1 else o2) := fun a ha ls H locs h1 h2 h3 => lv_icmp_gt g.1 g.2.1 hd ht (fun c => k1 a (by rw [if_pos c] at ha; exact ha) ls H locs h1 h2 h3) (fun c => k2 a (by rw [if_neg c] at ha; exact ha) ls H locs h1 h2 h3)
theorem qv_if_le (g : qv_ok G X cc own nL) {x : Int32} {off : Int} {tgt : Nat} (hd : decode cc pc = .ok (.ifCond .le off, 3)) (ht : (pc : Int) + off = (tgt : Int)) (k1 : qv_V G X nL Q T cs tgt lv st M o1) (k2 : qv_V G X nL Q T cs (pc + 3) lv st M o2) : qv_V G X nL Q T cs pc lv (.int x :: st) M (if x ≤ 0 then o1 else o2) := fun a ha ls H locs h1 h2 h3 => lv_if_le g.1 g.2.1 hd ht (fun c => k1 a (by rw [if_pos c] at ha; exact ha) ls H locs h1 h2 h3) (fun c => k2 a (by rw [if_neg c] at ha; exact ha) ls H locs h1 h2 h3)
theorem qv_icmp_le (g : qv_ok G X cc own nL) {x y : Int32} {off : Int} {tgt : Nat} (hd : decode cc pc = .ok (.if_icmp .le off, 3)) (ht : (pc : Int) + off = (tgt : Int)) (k1 : qv_V G X nL Q T cs tgt lv st M o1) (k2 : qv_V G X nL Q T cs (pc + 3) lv st M o2) : qv_V G X nL Q T cs pc lv (.int y :: .int x :: st) M (if x ≤ y then o1 else o2) := fun a ha ls H locs h1 h2 h3 => lv_icmp_le g.1 g.2.1 hd ht (fun c => k1 a (by rw [if_pos c] at ha; exact ha) ls H locs h1 h2 h3) (fun c => k2 a (by rw [if_neg c] at ha; exact ha) ls H locs h1 h2 h3)
theorem qv_goto (g : qv_ok G X cc own nL) {off : Int} {tgt : Nat} (hd : decode cc pc = .ok (.goto off, 3)) (ht : (pc : Int) + off = (tgt : Int)) (k : qv_V G X nL Q T cs tgt lv st M o) : qv_V G X nL Q T cs pc lv st M o := fun a ha ls H locs h1 h2 h3 => lv_goto g.1 g.2.1 hd ht (k a ha ls H locs h1 h2 h3)
theorem qv_tabO (g : qv_ok G X cc own nL) {dflt lo hi : Int} {offs : Array Int} {len : Nat} {x : Int32} {tgt : Nat} (hd : decode cc pc = .ok (.tableswitch dflt lo hi offs, len)) (h : x.toInt < lo ∨ hi < x.toInt) (ht : (pc : Int) + dflt = (tgt : Int)) (k : qv_V G X nL Q T cs tgt lv st M o) : qv_V G X nL Q T cs pc lv (.int x :: st) M o := fun a ha ls H locs h1 h2 h3 => lv_tableOut g.1 g.2.1 hd h ht (k a ha ls H locs h1 h2 h3)
theorem qv_tabI (g : qv_ok G X cc own nL) {dflt lo hi : Int} {offs : Array Int} {len : Nat} {x : Int32} {off : Int} {tgt : Nat} (hd : decode cc pc = .ok (.tableswitch dflt lo hi offs, len)) (h1 : ¬ x.toInt < lo) (h2 : ¬ hi < x.toInt) (ho : offs[(x.toInt - lo).toNat]? = some off) (ht : (pc : Int) + off = (tgt : Int)) (k : qv_V G X nL Q T cs tgt lv st M o) : qv_V G X nL Q T cs pc lv (.int x :: st) M o := fun a ha ls H locs i1 i2 i3 => lv_tableIn g.1 g.2.1 hd h1 h2 ho ht (k a ha ls H locs i1 i2 i3)
theorem qv_look (g : qv_ok G X cc own nL) {dflt : Int} {ps : Array (Int × Int)} {len : Nat} {x : Int32} {off : Int} {tgt : Nat} (hd : decode cc pc = .ok (.lookupswitch dflt ps, len)) (hp : (ps.toList.zip (ps.toList.drop 1)).all (fun (a, next) => a.1 < next.1) = true) (ho : Op.lookupswitch.offset ps.toList dflt x.toInt = off) (ht : (pc : Int) + off = (tgt : Int)) (k : qv_V G X nL Q T cs tgt lv st M o) : qv_V G X nL Q T cs pc lv (.int x :: st) M o := fun a ha ls H locs i1 i2 i3 => lv_lookup g.1 g.2.1 hd hp ho ht (k a ha ls H locs i1 i2 i3)
theorem qv_ldc (g : qv_ok G X cc own nL) {index : Nat} {v : Int32} (hw : Cond.constant own index v ∈ qv_gt) (hd : decode cc pc = .ok (.ldc index, 2)) (k : qv_V G X nL Q T cs (pc + 2) lv (.int v :: st) M o) : qv_V G X nL Q T cs pc lv st M o := fun a ha ls H locs h1 h2 h3 => lv_ldc g.1 g.2.1 g.2.2.2.1 (g.2.2.2.2.1 _ hw) hd (k a ha ls H locs h1 h2 h3)
theorem qv_ldc2 (g : qv_ok G X cc own nL) {index : Nat} {v : Int64} (hw : Cond.constantLong own index v ∈ qv_gt) (hd : decode cc pc = .ok (.ldc2_w index, 3)) (k : qv_V G X nL Q T cs (pc + 3) lv (.long v :: st) M o) : qv_V G X nL Q T cs pc lv st M o := fun a ha ls H locs h1 h2 h3 => lv_ldc2 g.1 g.2.1 g.2.2.2.1 (g.2.2.2.2.1 _ hw) hd (k a ha ls H locs h1 h2 h3)
/-- a field's words: which class, which place -/
def qv_fw (own : String) (index ci k : Nat) : Prop := ∃ (C : String) (TT : u_T) (N : Nat), vwCl[ci]? = some (C, TT, N) ∧ k < N ∧ (∀ w ∈ u_ws C TT N, w ∈ qv_gt) ∧ Cond.fieldLink own index C (TT k).2.1 (TT k).2.2.1 ∈ qv_gt ∧ (TT k).1 = C
theorem qv_get (g : qv_ok G X cc own nL) {index ci k id s : Nat} {fs : List (Option (Option Nat))} {v : Value} (hf : qv_fw own index ci k) (hci : ci < 20) (he : T[id]? = some (ci, s, fs)) (hk : k < fs.length) (hv : qv_fv X.2.2.2 (M.2.2 id k) (fs.getD k none) = v) (hd : decode cc pc = .ok (.getfield index, 3)) (kk : qv_V G X nL Q T cs (pc + 3) lv (v :: st) M o) : qv_V G X nL Q T cs pc lv (.ref (X.2.2.2 + id) :: st) M o := by
  intro a ha ls H locs h1 h2 h3
  obtain ⟨C, TT, N, f1, f2, f3, f4, f5⟩ := hf
  have hP := h2.one he
  rw [qv_cel_o X hci] at hP
  exact va_get g.1 g.2.1 g.2.2.2.2.1 f3 g.2.2.2.1 g.2.2.2.2.2.1.1 hP 0 rfl f1 k f2 (g.2.2.2.2.1 _ f4) (fun x hx => by rw [← f5]; exact hx) (by rw [qv_fvs_at hk, hv]) hd (kk a ha ls H locs h1 h2 h3)
/-- a number is read -/
theorem qv_gets (g : qv_ok G X cc own nL) {n index ci k id s : Nat} {kk : Int32 → Option α} (hf : qv_fw own index ci k) (hi : qv_is (n + 1) T ci s id) (hci : ci < 20) (hk : k < s) (hq : qv_kd ci k = none) (hd : decode cc pc = .ok (.getfield index, 3)) (h : ∀ v, qv_V G X nL Q T cs (pc + 3) lv (.int v :: st) M (kk v)) : qv_V G X nL Q T cs pc lv (.ref (X.2.2.2 + id) :: st) M (qv_gS id k M kk) := by
  obtain ⟨fs, e1, e2, e3⟩ := hi.sc ⟨by omega, by omega⟩ hk hq
  refine qv_get g hf hci e1 (by omega) ?_ hd (h _)
  rw [List.getD_eq_getElem?_getD, e3]
  rfl
/-- a reference is read -/
theorem qv_getr (g : qv_ok G X cc own nL) {n index ci k id s c' s' : Nat} (hf : qv_fw own index ci k) (hi : qv_is (n + 1) T ci s id) (hci : ci < 20) (hk : k < s) (hq : qv_kd ci k = some (c', s')) (hd : decode cc pc = .ok (.getfield index, 3)) (h : qv_V G X nL Q T cs (pc + 3) lv (.ref (X.2.2.2 + qv_rf T id k) :: st) M o) : qv_V G X nL Q T cs pc lv (.ref (X.2.2.2 + id) :: st) M o := by
  obtain ⟨⟨fs, e1, e2, e3⟩, -⟩ := hi.rf ⟨by omega, by omega⟩ hk hq
  refine qv_get g hf hci e1 (by omega) ?_ hd h
  rw [List.getD_eq_getElem?_getD, e3]
  rfl
/-- a field's words for writing -/
def qv_pw (own : String) (index ci k : Nat) (fin : Bool) (ty : FieldType) : Prop := ∃ (C : String) (TT : u_T) (N : Nat) (ty0 : Nat → FieldType), vwCl[ci]? = some (C, TT, N) ∧ k < N ∧ (∀ w ∈ u_ws C TT N, w ∈ qv_gt) ∧ Cond.fieldLink own index C (TT k).2.1 (TT k).2.2.1 ∈ qv_gt ∧ (TT k).1 = C ∧ (∀ k, k < N → parseFieldDescriptor (TT k).2.2.1 = some (ty0 k)) ∧ (∀ a, a < N → ∀ b, b < N → a ≠ b → (TT a).2.1 ≠ (TT b).2.1) ∧ (TT k).2.2.2 = fin ∧ parseFieldDescriptor (TT k).2.2.1 = some ty
theorem qv_fvs_set {B : Nat} {s s1 : Nat → Int32} {fs fs1 : List (Option (Option Nat))} {k : Nat} {v : Value} (hl : fs1.length = fs.length) (hk : k < fs.length) (h1 : qv_fv B (s1 k) (fs1.getD k none) = v) (h2 : ∀ j, j ≠ k → qv_fv B (s1 j) (fs1.getD j none) = qv_fv B (s j) (fs.getD j none)) : (qv_fvs B s fs).set k v = qv_fvs B s1 fs1 := by
  apply List.ext_getElem?
  intro j
  rw [List.getElem?_set, qv_fvs_len]
  by_cases hj : k = j
  · subst hj
    rw [if_pos rfl, if_pos hk, qv_fvs_at (by omega), h1]
  · rw [if_neg hj]
    by_cases hlt : j < fs.length
    · rw [qv_fvs_at hlt, qv_fvs_at (by omega), h2 j (fun e => hj e.symm)]
    · rw [List.getElem?_eq_none (by rw [qv_fvs_len]; omega), List.getElem?_eq_none (by rw [qv_fvs_len]; omega)]
/-- a field that isn't final is written -/
theorem qv_put (g : qv_ok G X cc own nL) {index ci k id s : Nat} {fs : List (Option (Option Nat))} {ty : FieldType} {v : Int32} (hf : qv_pw own index ci k false ty) (hci : ci < 20) (he : T[id]? = some (ci, s, fs)) (hk : k < fs.length) (h0 : fs[k]? = some none) (hn : narrow ty (.int v) = .int v) (hfit : fits ty (.int v) = true) (hd : decode cc pc = .ok (.putfield index, 3)) (kk : qv_V G X nL Q T cs (pc + 3) lv st (qv_upS M id k v) o) : qv_V G X nL Q T cs pc lv (.int v :: .ref (X.2.2.2 + id) :: st) M o := by
  intro a ha ls H locs h1 h2 h3
  obtain ⟨C, TT, N, ty0, f1, f2, f3, f4, f5, f6, f7, f8, f9⟩ := hf
  have hK := g.2.2.2.2.2.1.1
  have hts := g.2.2.2.2.1
  have hap := va_apart (own := own) hts f3 ty0 f6 f7 hK f1
  have hP := h2.2 id _ he
  rw [qv_cel_o X hci] at hP
  obtain ⟨r, i1, cell, q1, q2, q3, q4⟩ := hP
  have hr : r = (C, TT, N) := Option.some.inj (i1.symm.trans f1)
  subst hr
  obtain ⟨hS, hfc, kC, hkC, hkind⟩ := hK.1 ci _ f1
  obtain ⟨cf, kf, fi, f, hi, hsl⟩ := hS k f2
  have hlay := hts _ (f3 _ (u_in_lay f2))
  unfold u_lay at hlay
  rw [if_neg (by rw [f8]; decide)] at hlay
  have hst := (u_facts hfc hkC (u_lays hts f3 f2) hi).1
  have h6 := u_store hfc hkC hkind hlay hi f9 hn hfit
  refine W.putK g.1 g.2.1 (f := f) ⟨g.2.2.2.1, hts _ f4, ⟨_, _, _, by rw [← f5]; exact hi⟩, hst⟩ (by rw [q2]; exact h6) q1 q3 (by rw [hsl]; exact k2_hasslot (q4 k f2)) rfl rfl hd fun H' e1 e2 e3 => ?_
  rw [hsl] at e1 ⊢
  refine kk a ha ls H' _ h1 (h2.wr (id := id) e2 e3 (fun b hb => ⟨rfl, rfl, by funext j; simp [qv_upS, hb]⟩) (fun e he1 => ?_)) (h3.put e2 e3 (by show X.2.2.2 ≤ _; omega))
  have : e = (ci, s, fs) := Option.some.inj (he1.symm.trans he)
  subst this
  rw [qv_cel_o X hci, ← qv_fvs_set (s := M.2.2 id) (fs := fs) (k := k) (v := .int v) rfl hk (by rw [List.getD_eq_getElem?_getD, h0]; simp [qv_upS, qv_fv]) (fun j hj => by simp [qv_upS, hj])]
  exact ⟨_, f1, t_OB.to (V := updV (vp_V (qv_fvs X.2.2.2 (M.2.2 id) fs)) k (.int v)) ⟨_, e1, q2, q3, t_set q4 hap f2 _⟩ (fun j _ => vp_updV_set (by rw [qv_fvs_len]; exact hk) _ j)⟩
theorem qv_puti (g : qv_ok G X cc own nL) {n index ci k id s : Nat} {v : Int32} {kk : qv_Mem → Option α} (hf : qv_pw own index ci k false .int) (hi : qv_is (n + 1) T ci s id) (hci : ci < 20) (hk : k < s) (hq : qv_kd ci k = none) (hd : decode cc pc = .ok (.putfield index, 3)) (h : ∀ M1, qv_V G X nL Q T cs (pc + 3) lv st M1 (kk M1)) : qv_V G X nL Q T cs pc lv (.int v :: .ref (X.2.2.2 + id) :: st) M (qv_pS id k v M kk) := by
  obtain ⟨fs, e1, e2, e3⟩ := hi.sc ⟨by omega, by omega⟩ hk hq
  exact qv_put g hf hci e1 (by omega) e3 rfl rfl hd (h _)
theorem qv_putz (g : qv_ok G X cc own nL) {n index ci k id s : Nat} {v : Int32} {kk : qv_Mem → Option α} (hf : qv_pw own index ci k false .boolean) (hi : qv_is (n + 1) T ci s id) (hci : ci < 20) (hk : k < s) (hq : qv_kd ci k = none) (hd : decode cc pc = .ok (.putfield index, 3)) (h : ∀ M1, qv_V G X nL Q T cs (pc + 3) lv st M1 (kk M1)) : qv_V G X nL Q T cs pc lv (.int v :: .ref (X.2.2.2 + id) :: st) M (qv_pZ id k v M kk) := by
  unfold qv_pZ
  refine qv_ite _ (fun hz => ?_) (fun _ => qv_none)
  obtain ⟨fs, e1, e2, e3⟩ := hi.sc ⟨by omega, by omega⟩ hk hq
  have hv : v = 0 ∨ v = 1 := by simpa [qv_01] using hz
  exact qv_put g hf hci e1 (by omega) e3 (by rcases hv with rfl | rfl <;> rfl) (by rcases hv with rfl | rfl <;> rfl) hd (h _)
theorem qv_iald (g : qv_ok G X cc own nL) {n m id : Nat} {i : Int32} {kk : Int32 → Option α} (hi : qv_is m T 20 n id) (hd : decode cc pc = .ok (.iaload, 1)) (h : ∀ v, qv_V G X nL Q T cs (pc + 1) lv (.int v :: st) M (kk v)) : qv_V G X nL Q T cs pc lv (.int i :: .ref (X.2.2.2 + id) :: st) M (qv_ldI n id i M kk) := by
  unfold qv_ldI
  refine qv_ite _ (fun hz => ?_) (fun _ => qv_none)
  obtain ⟨fs, he⟩ := hi.sh
  intro a ha ls H locs h1 h2 h3
  exact va_iald g.1 g.2.1 g.2.2.2.2.2.1.1 (h2.one he) 0 0 rfl rfl (qv_inb_in hz) hd (h _ a ha ls H locs h1 h2 h3)
theorem qv_lald (g : qv_ok G X cc own nL) {n m id : Nat} {i : Int32} {kk : Int64 → Option α} (hi : qv_is m T 21 n id) (hd : decode cc pc = .ok (.laload, 1)) (h : ∀ v, qv_V G X nL Q T cs (pc + 1) lv (.long v :: st) M (kk v)) : qv_V G X nL Q T cs pc lv (.int i :: .ref (X.2.2.2 + id) :: st) M (qv_ldL n id i M kk) := by
  unfold qv_ldL
  refine qv_ite _ (fun hz => ?_) (fun _ => qv_none)
  obtain ⟨fs, he⟩ := hi.sh
  intro a ha ls H locs h1 h2 h3
  exact va_lald g.1 g.2.1 g.2.2.2.2.2.1.1 (h2.one he) 0 1 rfl rfl (qv_inb_in hz) hd (h _ a ha ls H locs h1 h2 h3)
theorem qv_iast (g : qv_ok G X cc own nL) {n m id : Nat} {i x : Int32} {kk : qv_Mem → Option α} (hi : qv_is m T 20 n id) (hd : decode cc pc = .ok (.iastore, 1)) (h : ∀ M1, qv_V G X nL Q T cs (pc + 1) lv st M1 (kk M1)) : qv_V G X nL Q T cs pc lv (.int x :: .int i :: .ref (X.2.2.2 + id) :: st) M (qv_stI n id i x M kk) := by
  unfold qv_stI
  refine qv_ite _ (fun hz => ?_) (fun _ => qv_none)
  have hin := qv_inb_in hz
  obtain ⟨fs, he⟩ := hi.sh
  intro a ha ls H locs h1 h2 h3
  refine W.iast g.1 g.2.1 (h2.2 id _ he) ((g.2.2.2.2.2.1.1.2 0 _ rfl).1 n (fun j => .int (M.1 id j))) (fun q => by cases q) (by show ¬ (i < 0 ∨ (arrV _ _ _).slots.size ≤ _); rw [arrV_size]; exact hin) rfl rfl hd fun H1 e z oq => ?_
  refine h (qv_upI M id i.toNatClampNeg x) a ha ls H1 _ h1 (h2.wr (id := id) z oq (fun b hb => ⟨by funext j; simp [qv_upI, hb], rfl, rfl⟩) (fun e1 he1 => ?_)) (h3.put z oq (by show X.2.2.2 ≤ _; omega))
  have : e1 = (20, n, fs) := Option.some.inj (he1.symm.trans he)
  subst this
  show H1[X.2.2.2 + id]? = some (vp_cell (X.2.1 20) (n, .inl ((qv_upI M id i.toNatClampNeg x).1 id)))
  rw [e]
  show some ((arrV (X.2.1 20) n (fun j => .int (M.1 id j))).setSlot _ _) = some (arrV (X.2.1 20) n (fun j => .int ((qv_upI M id i.toNatClampNeg x).1 id j)))
  rw [arrV_store]
  congr 2
  funext q
  by_cases hq : q = i.toNatClampNeg
  · simp [updV, qv_upI, hq]
  · simp [updV, qv_upI, hq]
theorem qv_last (g : qv_ok G X cc own nL) {n m id : Nat} {i : Int32} {x : Int64} {kk : qv_Mem → Option α} (hi : qv_is m T 21 n id) (hd : decode cc pc = .ok (.lastore, 1)) (h : ∀ M1, qv_V G X nL Q T cs (pc + 1) lv st M1 (kk M1)) : qv_V G X nL Q T cs pc lv (.long x :: .int i :: .ref (X.2.2.2 + id) :: st) M (qv_stL n id i x M kk) := by
  unfold qv_stL
  refine qv_ite _ (fun hz => ?_) (fun _ => qv_none)
  have hin := qv_inb_in hz
  obtain ⟨fs, he⟩ := hi.sh
  intro a ha ls H locs h1 h2 h3
  refine W.last g.1 g.2.1 (h2.2 id _ he) ((g.2.2.2.2.2.1.1.2 1 _ rfl).1 n (fun j => .long (M.2.1 id j))) (fun q => by cases q) (by show ¬ (i < 0 ∨ (arrV _ _ _).slots.size ≤ _); rw [arrV_size]; exact hin) rfl rfl hd fun H1 e z oq => ?_
  refine h (qv_upL M id i.toNatClampNeg x) a ha ls H1 _ h1 (h2.wr (id := id) z oq (fun b hb => ⟨rfl, by funext j; simp [qv_upL, hb], rfl⟩) (fun e1 he1 => ?_)) (h3.put z oq (by show X.2.2.2 ≤ _; omega))
  have : e1 = (21, n, fs) := Option.some.inj (he1.symm.trans he)
  subst this
  show H1[X.2.2.2 + id]? = some (vp_cell (X.2.1 21) (n, .inr (.inl ((qv_upL M id i.toNatClampNeg x).2.1 id))))
  rw [e]
  show some ((arrV (X.2.1 21) n (fun j => .long (M.2.1 id j))).setSlot _ _) = some (arrV (X.2.1 21) n (fun j => .long ((qv_upL M id i.toNatClampNeg x).2.1 id j)))
  rw [arrV_store]
  congr 2
  funext q
  by_cases hq : q = i.toNatClampNeg
  · simp [updV, qv_upL, hq]
  · simp [updV, qv_upL, hq]
/-- a reference out of a row of Tables or Rows -/
theorem qv_aald (g : qv_ok G X cc own nL) {n m id c s' : Nat} {i : Int32} (hc : c = 36 ∨ c = 37) (hi : qv_is (m + 1) T c n id) (hq : ∀ k, k < n → ∃ c', qv_kd c k = some (c', s')) (hd : decode cc pc = .ok (.aaload, 1)) (h : qv_inb i n = true → qv_V G X nL Q T cs (pc + 1) lv (.ref (X.2.2.2 + qv_rf T id i.toNatClampNeg) :: st) M o) : qv_V G X nL Q T cs pc lv (.int i :: .ref (X.2.2.2 + id) :: st) M (qv_gd (qv_inb i n) o) := by
  unfold qv_gd
  refine qv_ite _ (fun hz => ?_) (fun _ => qv_none)
  have hin := qv_inb_in hz
  have hlt : i.toNatClampNeg < n := Nat.not_le.mp fun q => hin (Or.inr q)
  obtain ⟨c', hq⟩ := hq _ hlt
  obtain ⟨⟨fs, e1, e2, e3⟩, -⟩ := hi.rf (by omega) hlt hq
  intro a ha ls H locs h1 h2 h3
  have hP := h2.one e1
  rw [qv_cel_q X (by omega)] at hP
  have hv : va_rf (((fs.getD i.toNatClampNeg none).getD none).map (fun i => X.2.2.2 + i)) = .ref (X.2.2.2 + qv_rf T id i.toNatClampNeg) := by
    rw [List.getD_eq_getElem?_getD, e3]
    rfl
  have hk := h hz a ha ls H locs h1 h2 h3
  rw [← hv] at hk
  rcases hc with rfl | rfl
  · exact va_aldq g.1 g.2.1 g.2.2.2.2.2.1.1 hP 0 3 rfl rfl hin hd hk
  · exact va_aldq g.1 g.2.1 g.2.2.2.2.2.1.1 hP 0 2 rfl rfl hin hd hk
theorem qv_alen (g : qv_ok G X cc own nL) {n m id c : Nat} {v : Int32} (hc : c = 20 ∨ c = 21 ∨ c = 36 ∨ c = 37) (hi : qv_is m T c n id) (hv : Int32.ofNat n = v) (hd : decode cc pc = .ok (.arraylength, 1)) (h : qv_V G X nL Q T cs (pc + 1) lv (.int v :: st) M o) : qv_V G X nL Q T cs pc lv (.ref (X.2.2.2 + id) :: st) M o := by
  obtain ⟨fs, he⟩ := hi.sh
  intro a ha ls H locs h1 h2 h3
  have hP := h2.one he
  rcases hc with rfl | rfl | rfl | rfl
  · exact va_alen g.1 g.2.1 g.2.2.2.2.2.1.1 hP 0 0 rfl rfl hv hd (h a ha ls H locs h1 h2 h3)
  · exact va_alen g.1 g.2.1 g.2.2.2.2.2.1.1 hP 0 1 rfl rfl hv hd (h a ha ls H locs h1 h2 h3)
  · exact va_alen g.1 g.2.1 g.2.2.2.2.2.1.1 hP 0 3 rfl rfl hv hd (h a ha ls H locs h1 h2 h3)
  · exact va_alen g.1 g.2.1 g.2.2.2.2.2.1.1 hP 0 2 rfl rfl hv hd (h a ha ls H locs h1 h2 h3)

end QV
