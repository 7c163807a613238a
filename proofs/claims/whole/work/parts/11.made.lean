/-! Constructors: cells are made; T grows. -/
def qv_zr (M : qv_Mem) (id : Nat) : qv_Mem := (fun a j => if a = id then 0 else M.1 a j, fun a j => if a = id then 0 else M.2.1 a j, fun a j => if a = id then 0 else M.2.2 a j)
def qv_al {α : Type} (id : Nat) (M : qv_Mem) (k : qv_Mem → Option α) : Option α := k (qv_zr M id)
def qv_rmC (d mc ms : Nat) : Room := { frames := d + 1, cells := mc, slots := ms, locals := 64 * (d + 1) }
def qv_OkC (l : Launch) (X : qv_X) (y : MethodName) (bytes : ByteArray) (maxL d mc ms : Nat) (T T1 : List qv_Ent) (M : qv_Mem) (av : List Value) (o : Option qv_Mem) : Prop :=
  ∀ a, o = some a → Met l y (Cond.code y bytes maxL none :: qv_gt) (qv_rmC d mc ms) (va_Pc av (qv_Wd X T M)) (qv_Qo X T1 (none, a)) mc ms (qv_A X)
theorem qv_mkC {l : Launch} {X : qv_X} {y : MethodName} {bytes : ByteArray} {maxL d mc ms : Nat} {T T1 : List qv_Ent} {M : qv_Mem} {av : List Value} {o : Option qv_Mem} {lv : List (Nat × Value)} (hy : plainName y.cls = true) (hle : (lg_sl av).length ≤ maxL) (hlv : lv_args 0 av = lv) (hin : y.name = "<init>")
    (body : ∀ G : qv_G, gl G = l → gR G = qv_rmC d mc ms → qv_ok G X bytes y.cls maxL → (gM G).sig.returnType = none → (gM G).name = "<init>" → qv_V G X maxL (qv_QM G X T1 qv_eV (mc, ms)) T (0, 0) 0 lv [] M o) : qv_OkC l X y bytes maxL d mc ms T T1 M av o := by
  subst hlv
  intro a ha
  refine Met.ofW (cc := bytes) (maxL := maxL) (ret := none) hy rfl ?_
  intro p e s m args below meth c s₁ B hml hv
  obtain ⟨rfl, hW, hK⟩ := hv
  have hts := atoms_spec (ws := Cond.code y bytes maxL none :: qv_gt) B.pre
  rw [lg_entry_eq]
  have hl := lv_entry av (n := maxL) hle
  have hnm : meth.name = y.name := (name_of_methodNamed B.named B.method).1
  exact body (p, l, e, qv_rmC d mc ms, s, m, av.toArray, below, meth, c) rfl rfl ⟨B.exec, B.bytes, hml, findClass_of_methodNamed B.named, fun w hw => hts w (List.mem_cons_of_mem _ hw), hK, by show _ ≤ s.heap.size; rw [hW.1]; exact Nat.le_add_right _ _, B.notSynchronized, by show 1 ≤ d + 1; omega, by show 64 ≤ 64 * (d + 1); omega⟩ B.returns (hnm.trans hin) a ha _ s.heap [] hl hW va_S.rf
/-- a cell is added -/
theorem qv_Hp.ad {X : qv_X} {T : List qv_Ent} {M M1 : qv_Mem} {H H1 : Heap} {e : qv_Ent} (h : qv_Hp X T M H) (hz : H1.size = H.size + 1) (ho : ∀ q : Nat, q < H.size → H1[q]? = H[q]?) (hm : ∀ a, a < T.length → M1.1 a = M.1 a ∧ M1.2.1 a = M.2.1 a ∧ M1.2.2 a = M.2.2 a) (hn : va_at X.1 vwCl (X.2.2.2 + T.length, qv_cel X e (M1.1 T.length) (M1.2.1 T.length) (M1.2.2 T.length)) H1) : qv_Hp X (T ++ [e]) M1 H1 := by
  refine ⟨by rw [hz, h.1, List.length_append]; rfl, fun a f hf => ?_⟩
  by_cases ha : a < T.length
  · rw [List.getElem?_append_left ha] at hf
    obtain ⟨m1, m2, m3⟩ := hm a ha
    rw [m1, m2, m3]
    exact (h.2 a f hf).kept (ho _ (by show X.2.2.2 + a < H.size; rw [h.1]; omega))
  · rw [List.getElem?_append_right (by omega)] at hf
    have hz : a - T.length < 1 := (List.getElem?_eq_some_iff.mp hf).1
    have ha2 : a = T.length := by omega
    subst ha2
    rw [Nat.sub_self] at hf
    cases hf
    exact hn
theorem qv_zr_old {M : qv_Mem} {id a : Nat} (h : a < id) : (qv_zr M id).1 a = M.1 a ∧ (qv_zr M id).2.1 a = M.2.1 a ∧ (qv_zr M id).2.2 a = M.2.2 a := by
  have : ¬ a = id := by omega
  refine ⟨?_, ?_, ?_⟩ <;> (funext j; simp [qv_zr, this])
theorem qv_sS {A : Nat → Prop} {H0 H H1 : Heap} {locs : List Loc} (h : va_S A H0 H locs) (hz : H1.size = H.size + 1) (ho : ∀ q : Nat, q < H.size → H1[q]? = H[q]?) : va_S A H0 H1 locs := ⟨by have := h.1; omega, fun q h1 h2 => by rw [ho q (by have := h.1; omega)]; exact h.2.1 q h1 h2, h.2.2⟩
def qv_nw (own : String) (index ci : Nat) (fs : List (Option (Option Nat))) : Prop := ∃ (C : String) (TT : u_T) (N : Nat) (ty0 : Nat → FieldType), ci < 20 ∧ vwCl[ci]? = some (C, TT, N) ∧ fs.length = N ∧ (∀ w ∈ u_ws C TT N, w ∈ qv_gt) ∧ (∀ k, k < N → parseFieldDescriptor (TT k).2.2.1 = some (ty0 k)) ∧ Cond.classLink own index C ∈ qv_gt ∧ Cond.instantiable C N ∈ qv_gt ∧ Cond.initialized C ∈ qv_gt ∧ (∀ j, j < N → defaultValue (ty0 j) = match fs.getD j none with | none => Value.int 0 | some _ => Value.null) ∧ (∀ j, j < N → fs.getD j none = none ∨ fs.getD j none = some none)
section QN
variable {α : Type} {G : qv_G} {X : qv_X} {nL : Nat} {Q : α → State → Prop} {T T0 L : List qv_Ent} {b : Nat} {cs : Nat × Nat} {pc : Nat} {lv : List (Nat × Value)} {st : List Value} {M : qv_Mem} {o : Option α} {cc : ByteArray} {own : String}
theorem qv_new (g : qv_ok G X cc own nL) {index ci id n : Nat} {fs : List (Option (Option Nat))} {k : qv_Mem → Option α} (hw : qv_nw own index ci fs) (hn : fs.length = n) (hid : T.length = id) (hc : cs.1 + 1 ≤ (gR G).cells ∧ cs.2 + n ≤ (gR G).slots) (hd : decode cc pc = .ok (.new index, 3)) (kk : ∀ M1, qv_V G X nL Q (T ++ [(ci, n, fs)]) (cs.1 + 1, cs.2 + n) (pc + 3) lv (.ref (X.2.2.2 + id) :: st) M1 (k M1)) : qv_V G X nL Q T cs pc lv st M (qv_al id M k) := by
  intro a ha ls H locs h1 h2 h3
  obtain ⟨C, TT, N, ty0, w0, w1, w2, w3, w4, w5, w6, w7, w8, w9⟩ := hw
  have hnN : n = N := by omega
  subst hnN
  subst hid
  have hts := g.2.2.2.2.1
  have hKn := g.2.2.2.2.2.1.1.1 ci _ w1
  refine W.newcK g.1 g.2.1 g.2.2.2.1 (hts _ w5) (hts _ w6) (hts _ w7) rfl hd hc.1 hc.2 hKn.2.1 h2.1 fun H1 kC hkC e1 z1 o1 => ?_
  rw [← h2.1] at o1 z1
  refine kk (qv_zr M T.length) a ha ls H1 locs h1 (h2.ad z1 o1 (fun b hb => qv_zr_old hb) ?_) (qv_sS h3 z1 o1)
  rw [qv_cel_o X w0]
  refine ⟨_, w1, (u_born ty0 hts w3 hKn hkC e1 w4).to (fun j hj => ?_)⟩
  rw [w8 j hj]
  have e2 : vp_V (qv_fvs X.2.2.2 ((qv_zr M T.length).2.2 T.length) fs) j = qv_fv X.2.2.2 ((qv_zr M T.length).2.2 T.length j) (fs.getD j none) := by
    show (qv_fvs X.2.2.2 ((qv_zr M T.length).2.2 T.length) fs).getD j .null = _
    rw [List.getD_eq_getElem?_getD (l := qv_fvs X.2.2.2 ((qv_zr M T.length).2.2 T.length) fs), qv_fvs_at (by omega)]
    rfl
  rw [e2]
  rcases w9 j hj with e | e
  · rw [e]; simp [qv_fv, qv_zr]
  · rw [e]; rfl
theorem qv_newI (g : qv_ok G X cc own nL) {id n : Nat} {v : Int32} {k : qv_Mem → Option α} (hw : Cond.arrayClass .int ∈ qv_gt) (hv : ¬ v < 0) (hn : v.toNatClampNeg = n) (hb : n ≤ 100000) (hid : T.length = id) (hc : cs.1 + 1 ≤ (gR G).cells ∧ cs.2 + n ≤ (gR G).slots) (hd : decode cc pc = .ok (.newarray .int, 2)) (kk : ∀ M1, qv_V G X nL Q (T ++ [(20, n, [])]) (cs.1 + 1, cs.2 + n) (pc + 2) lv (.ref (X.2.2.2 + id) :: st) M1 (k M1)) : qv_V G X nL Q T cs pc lv (.int v :: st) M (qv_al id M k) := by
  intro a ha ls H locs h1 h2 h3
  subst hid
  have hts := g.2.2.2.2.1
  refine va_newaK (atype := .int) g.1 g.2.1 (hts _ hw) rfl hd rfl hv hn (by show n * 4 ≤ _; omega) hc.1 hc.2 h2.1 fun H1 cA e1 z1 o1 hAr hNm => ?_
  rw [← h2.1] at o1 z1
  have hcA : cA = X.2.1 20 := Option.some.inj (hNm.symm.trans (g.2.2.2.2.2.1.1.2 0 _ rfl).2)
  subst hcA
  refine kk (qv_zr M T.length) a ha ls H1 locs h1 (h2.ad z1 o1 (fun b hb => qv_zr_old hb) ?_) (qv_sS h3 z1 o1)
  show H1[X.2.2.2 + T.length]? = some (arrV (X.2.1 20) n (fun j => .int ((qv_zr M T.length).1 T.length j)))
  rw [e1]
  simp [qv_zr]
  rfl
theorem qv_newL (g : qv_ok G X cc own nL) {id n : Nat} {v : Int32} {k : qv_Mem → Option α} (hw : Cond.arrayClass .long ∈ qv_gt) (hv : ¬ v < 0) (hn : v.toNatClampNeg = n) (hb : n ≤ 100000) (hid : T.length = id) (hc : cs.1 + 1 ≤ (gR G).cells ∧ cs.2 + n ≤ (gR G).slots) (hd : decode cc pc = .ok (.newarray .long, 2)) (kk : ∀ M1, qv_V G X nL Q (T ++ [(21, n, [])]) (cs.1 + 1, cs.2 + n) (pc + 2) lv (.ref (X.2.2.2 + id) :: st) M1 (k M1)) : qv_V G X nL Q T cs pc lv (.int v :: st) M (qv_al id M k) := by
  intro a ha ls H locs h1 h2 h3
  subst hid
  have hts := g.2.2.2.2.1
  refine va_newaK (atype := .long) g.1 g.2.1 (hts _ hw) rfl hd rfl hv hn (by show n * 8 ≤ _; omega) hc.1 hc.2 h2.1 fun H1 cA e1 z1 o1 hAr hNm => ?_
  rw [← h2.1] at o1 z1
  have hcA : cA = X.2.1 21 := Option.some.inj (hNm.symm.trans (g.2.2.2.2.2.1.1.2 1 _ rfl).2)
  subst hcA
  refine kk (qv_zr M T.length) a ha ls H1 locs h1 (h2.ad z1 o1 (fun b hb => qv_zr_old hb) ?_) (qv_sS h3 z1 o1)
  show H1[X.2.2.2 + T.length]? = some (arrV (X.2.1 21) n (fun j => .long ((qv_zr M T.length).2.1 T.length j)))
  rw [e1]
  simp [qv_zr]
  rfl
/-- a row of references, all null -/
theorem qv_newQ (g : qv_ok G X cc own nL) {id n c index : Nat} {C : String} {v : Int32} {k : qv_Mem → Option α} (hC : c = 36 ∧ C = RX6 ∨ c = 37 ∧ C = RX7) (hw : Cond.classLink own index C ∈ qv_gt) (hv : ¬ v < 0) (hn : v.toNatClampNeg = n) (hb : n ≤ 100000) (hid : T.length = id) (hc : cs.1 + 1 ≤ (gR G).cells ∧ cs.2 + n ≤ (gR G).slots) (hd : decode cc pc = .ok (.anewarray index, 3)) (kk : ∀ M1, qv_V G X nL Q (T ++ [(c, n, List.replicate n (some none))]) (cs.1 + 1, cs.2 + n) (pc + 3) lv (.ref (X.2.2.2 + id) :: st) M1 (k M1)) : qv_V G X nL Q T cs pc lv (.int v :: st) M (qv_al id M k) := by
  intro a ha ls H locs h1 h2 h3
  subst hid
  subst hn
  have hts := g.2.2.2.2.1
  have hAO : va_AO C (gs G) := by
    rcases hC with ⟨-, rfl⟩ | ⟨-, rfl⟩
    · exact g.2.2.2.2.2.1.2.2.2.2.2
    · exact g.2.2.2.2.2.1.2.2.2.2.1
  refine W.anew g.1 g.2.1 g.2.2.2.1 (hts _ hw) (va_AO.use hAO) rfl hd rfl hv (by omega) hc.1 hc.2 fun cA kA comp f1 f2 f3 f4 => ?_
  generalize hH1 : H.push ({ cls := cA, slots := Array.replicate v.toNatClampNeg .null, vm := .none } : Cell) = H1
  have z1 : H1.size = H.size + 1 := by rw [← hH1, Array.size_push]
  have e1 : H1[H.size]? = some (arrV cA v.toNatClampNeg (fun _ => .null)) := by rw [← hH1, Array.getElem?_push_size, ← arrV_new]
  have o1 : ∀ q : Nat, q < H.size → H1[q]? = H[q]? := fun q hq => by rw [← hH1, Array.getElem?_push, if_neg (Nat.ne_of_lt hq)]
  have hc30 : 30 ≤ c := by omega
  have hcA : cA = X.2.1 c := by
    rcases hC with ⟨rfl, rfl⟩ | ⟨rfl, rfl⟩
    · obtain ⟨_, _, -, -, -, r4⟩ := (g.2.2.2.2.2.1.1.2 3 _ rfl).2
      exact Option.some.inj (f1.symm.trans r4)
    · obtain ⟨_, _, -, -, -, r4⟩ := (g.2.2.2.2.2.1.1.2 2 _ rfl).2
      exact Option.some.inj (f1.symm.trans r4)
  subst hcA
  show W (gp G) (gl G) (ge G) (gR G) (gs G) (gm G) (ga G) (gb G) (gM G) (gc G) H1 locs (cs.1 + 1) (cs.2 + v.toNatClampNeg) (Q a) (F0 (gm G) (pc + 3) ls (.ref H.size :: st))
  rw [h2.1]
  refine kk (qv_zr M T.length) a ha ls H1 locs h1 (h2.ad z1 o1 (fun b hb => qv_zr_old hb) ?_) (qv_sS h3 z1 o1)
  rw [qv_cel_q X hc30]
  show H1[X.2.2.2 + T.length]? = some (arrV (X.2.1 c) v.toNatClampNeg (fun j => va_rf ((((List.replicate v.toNatClampNeg (some none)).getD j none).getD none).map _)))
  rw [← h2.1, e1]
  congr 2
  funext j
  have : (((List.replicate v.toNatClampNeg (some (none : Option Nat))).getD j none).getD none) = none := by
    rw [List.getD_eq_getElem?_getD, List.getElem?_replicate]
    split <;> rfl
  rw [this]
  rfl
/-- what stands at a place of the part that is being made -/
theorem qv_at (hb : T0.length = b) {k : Nat} {e : qv_Ent} (h : L[k]? = some e) : (T0 ++ L)[b + k]? = some e := by
  rw [List.getElem?_append_right (by omega), ← hb, Nat.add_sub_cancel_left]
  exact h
theorem qv_st (hb : T0.length = b) (k : Nat) (e : qv_Ent) : (T0 ++ L).set (b + k) e = T0 ++ L.set k e := by
  rw [← hb, List.set_append_right _ _ (Nat.le_add_right _ _), Nat.add_sub_cancel_left]
/-- a cell's kind changes: a reference is put into it -/
theorem qv_Hp.rp {X : qv_X} {T : List qv_Ent} {M : qv_Mem} {H H1 : Heap} (h : qv_Hp X T M H) {id : Nat} {e : qv_Ent} (hz : H1.size = H.size) (ho : ∀ q : Nat, q ≠ X.2.2.2 + id → H1[q]? = H[q]?) (hn : va_at X.1 vwCl (X.2.2.2 + id, qv_cel X e (M.1 id) (M.2.1 id) (M.2.2 id)) H1) : qv_Hp X (T.set id e) M H1 := by
  refine ⟨by rw [hz, List.length_set]; exact h.1, fun a f hf => ?_⟩
  rw [List.getElem?_set] at hf
  by_cases ha : id = a
  · subst ha
    rw [if_pos rfl] at hf
    by_cases hl : id < T.length
    · rw [if_pos hl] at hf
      cases hf
      exact hn
    · rw [if_neg hl] at hf; cases hf
  · rw [if_neg ha] at hf
    exact (h.2 a f hf).kept (ho _ (by show X.2.2.2 + a ≠ X.2.2.2 + id; omega))
theorem qv_putF (g : qv_ok G X cc own nL) {index ci k id s r : Nat} {fs fs1 : List (Option (Option Nat))} {ty : FieldType} {T1 : List qv_Ent} (hf : qv_pw own index ci k true ty) (hown : vwCl[ci]?.map (fun q => q.1) = some own) (hin : (gM G).name = "<init>") (hci : ci < 20) (he : T[id]? = some (ci, s, fs)) (hk : k < fs.length) (hfs : fs.set k (some (some r)) = fs1) (hT : T.set id (ci, s, fs1) = T1) (hn : narrow ty (.ref (X.2.2.2 + r)) = .ref (X.2.2.2 + r)) (hfit : fits ty (.ref (X.2.2.2 + r)) = true) (hd : decode cc pc = .ok (.putfield index, 3)) (kk : qv_V G X nL Q T1 cs (pc + 3) lv st M o) : qv_V G X nL Q T cs pc lv (.ref (X.2.2.2 + r) :: .ref (X.2.2.2 + id) :: st) M o := by
  intro a ha ls H locs h1 h2 h3
  subst hfs
  subst hT
  obtain ⟨C, TT, N, ty0, f1, f2, f3, f4, f5, f6, f7, f8, f9⟩ := hf
  have hCo : C = own := by rw [f1] at hown; exact Option.some.inj hown
  have hK := g.2.2.2.2.2.1.1
  have hts := g.2.2.2.2.1
  have hap := va_apart (own := own) hts f3 ty0 f6 f7 hK f1
  have hP := h2.2 id _ he
  rw [qv_cel_o X hci] at hP
  obtain ⟨r0, i1, cell, q1, q2, q3, q4⟩ := hP
  have hr : r0 = (C, TT, N) := Option.some.inj (i1.symm.trans f1)
  subst hr
  obtain ⟨hS, hfc, kC, hkC, hkind⟩ := hK.1 ci _ f1
  obtain ⟨cf, kf, fi, f, hi, hsl⟩ := hS k f2
  have hlay := hts _ (f3 _ (u_in_lay f2))
  unfold u_lay at hlay
  rw [if_pos f8] at hlay
  have hst := (u_facts hfc hkC (u_lays hts f3 f2) hi).1
  have hcf : (gm G).cls = cf := by
    obtain ⟨_, _, c', _, _, _, -, -, hf', -, -, -, hown2, -⟩ := Cond.laysFinal_spec hlay
    have e1 : c' = cf := by have := hi.symm.trans hf'; simp at this; exact this.1.symm
    rw [f5, hCo] at hown2
    rw [← e1]; exact Option.some.inj (g.2.2.2.1.symm.trans hown2)
  have h6 := u_fits hfc hkC hkind (Or.inr hlay) hi f9 hn hfit
  refine W.putFinK g.1 g.2.1 g.2.2.2.1 (hts _ f4) (by rw [← f5]; exact hi) hst hcf hin (by rw [q2]; exact h6) q1 q3 (by rw [hsl]; exact k2_hasslot (q4 k f2)) rfl rfl hd fun H' e1 e2 e3 => ?_
  rw [hsl] at e1 ⊢
  refine kk a ha ls H' _ h1 (h2.rp e2 e3 ?_) (h3.put e2 e3 (by show X.2.2.2 ≤ _; omega))
  rw [qv_cel_o X hci, ← qv_fvs_set (s := M.2.2 id) (fs := fs) (k := k) (v := .ref (X.2.2.2 + r)) (by rw [List.length_set]) hk (by rw [List.getD_eq_getElem?_getD, List.getElem?_set_self hk]; rfl) (fun j hj => by rw [List.getD_eq_getElem?_getD, List.getElem?_set_ne (Ne.symm hj), ← List.getD_eq_getElem?_getD])]
  exact ⟨_, f1, t_OB.to (V := updV (vp_V (qv_fvs X.2.2.2 (M.2.2 id) fs)) k (.ref (X.2.2.2 + r))) ⟨_, e1, q2, q3, t_set q4 hap f2 _⟩ (fun j _ => vp_updV_set (by rw [qv_fvs_len]; exact hk) _ j)⟩
theorem qv_aast (g : qv_ok G X cc own nL) {n id r c ci j : Nat} {s : Nat} {fs fs1 gs0 : List (Option (Option Nat))} {i : Int32} {T1 : List qv_Ent} (hC : c = 36 ∧ ci = 6 ∨ c = 37 ∧ ci = 7) (he : T[id]? = some (c, n, fs)) (hv : T[r]? = some (ci, s, gs0)) (hl : fs.length = n) (hi : ¬ i < 0) (hj : i.toNatClampNeg = j) (hjn : j < n) (hfs : fs.set j (some (some r)) = fs1) (hT : T.set id (c, n, fs1) = T1) (hd : decode cc pc = .ok (.aastore, 1)) (kk : qv_V G X nL Q T1 cs (pc + 1) lv st M o) : qv_V G X nL Q T cs pc lv (.ref (X.2.2.2 + r) :: .int i :: .ref (X.2.2.2 + id) :: st) M o := by
  intro a ha ls H locs h1 h2 h3
  subst hfs
  subst hT
  have hK := g.2.2.2.2.2.1.1
  have hc30 : 30 ≤ c := by omega
  have hci : ci < 20 := by omega
  have hP := h2.2 id _ he
  rw [qv_cel_q X hc30] at hP
  have hV := h2.2 r _ hv
  rw [qv_cel_o X hci] at hV
  obtain ⟨r', hr', cellV, g1, g2, g3, -⟩ := hV
  obtain ⟨rr, hrr, kA, comp, k1, k2, k3⟩ : ∃ rr : vw_C, vwCl[ci]? = some rr ∧ ∃ (kA : Class) (comp : ClassId), (gs G).vm.classes[X.2.1 c]? = some kA ∧ kA.kind = .array comp (.object rr.1) ∧ (gs G).vm.findClass rr.1 = some comp := by
    rcases hC with ⟨rfl, rfl⟩ | ⟨rfl, rfl⟩
    · obtain ⟨kA, comp, k1, k2, k3, -⟩ := (hK.2 3 _ rfl).2
      exact ⟨_, rfl, kA, comp, k1, k2, k3⟩
    · obtain ⟨kA, comp, k1, k2, k3, -⟩ := (hK.2 2 _ rfl).2
      exact ⟨_, rfl, kA, comp, k1, k2, k3⟩
  have hcls := (hK.1 ci rr hrr).2
  have hcomp : comp = X.1.1 ci := Option.some.inj (k3.symm.trans hcls.1)
  subst hcomp
  obtain ⟨kC, hkC, -⟩ := hcls.2
  refine W.aast g.1 g.2.1 hP (fun q h => by cases h) (fun h => by cases h) k1 k2 rfl hkC ⟨hi, by show _ < (arrV (X.2.1 c) n _).slots.size; rw [arrV_size, hj]; exact hjn⟩ g1 (fun q h => by rw [g3] at h; cases h) (by rw [g2]; exact hkC) (by rw [g2]; exact va_assign hcls) rfl rfl hd fun H1 e z oq => ?_
  refine kk a ha ls H1 _ h1 (h2.rp z oq ?_) (h3.put z oq (by show X.2.2.2 ≤ _; omega))
  rw [qv_cel_q X hc30]
  show H1[X.2.2.2 + id]? = some (arrV (X.2.1 c) n (fun q => va_rf ((((fs.set j (some (some r))).getD q none).getD none).map (fun i => X.2.2.2 + i))))
  rw [e]
  show some ((arrV (X.2.1 c) n (fun q => va_rf (((fs.getD q none).getD none).map (fun i => X.2.2.2 + i)))).setSlot _ _) = _
  rw [arrV_store, hj]
  congr 2
  funext q
  by_cases hq : q = j
  · subst hq
    rw [List.getD_eq_getElem?_getD (l := fs.set q _), List.getElem?_set_self (by omega)]
    simp [updV]
    rfl
  · rw [List.getD_eq_getElem?_getD (l := fs.set j _), List.getElem?_set_ne (Ne.symm hq), ← List.getD_eq_getElem?_getD]
    simp [updV, hq]
theorem qv_obj (g : qv_ok G X cc own nL) {index id : Nat} (h1 : Cond.methodLink own index objectInit ∈ qv_gt) (h2 : Cond.instanceMethod objectInit ∈ qv_gt) (h3 : Cond.code objectInit ⟨#[0xb1]⟩ 1 none ∈ qv_gt) (hrs : (st.map fun v => v.category).sum ≤ 8) (hd : decode cc pc = .ok (.invokespecial index, 3)) (kk : qv_V G X nL Q T cs (pc + 3) lv st M o) : qv_V G X nL Q T cs pc lv (.ref (X.2.2.2 + id) :: st) M o := by
  intro a ha ls H locs i1 i2 i3
  have hts := g.2.2.2.2.1
  exact W.objInit g.1 g.2.1 g.2.2.2.1 (hts _ h1) (hts _ h2) (hts _ h3) rfl (by rw [g.2.2.1]; exact i1.1) rfl hd g.2.2.2.2.2.2.2.2.1 (by have := g.2.2.2.2.2.2.2.2.2; show 2 * 0 + _ + 12 ≤ _; omega) (kk a ha ls H locs i1 i2 i3)
theorem qv_RC {e dc mc ms maxL : Nat} (hRm : gR G = qv_rmC e mc ms) (h : dc + 1 ≤ e) (hm : maxL ≤ 45) : dc + 2 ≤ (gR G).frames ∧ 19 + maxL + 64 * (dc + 1) ≤ (gR G).locals := by
  rw [hRm]
  show dc + 2 ≤ e + 1 ∧ 19 + maxL + 64 * (dc + 1) ≤ 64 * (e + 1)
  omega
theorem qv_cC {e mc ms a c : Nat} (hRm : gR G = qv_rmC e mc ms) (h1 : a ≤ mc) (h2 : c ≤ ms) : a ≤ (gR G).cells ∧ c ≤ (gR G).slots := by
  rw [hRm]
  exact ⟨h1, h2⟩
theorem qv_runC {T1 : List qv_Ent} {H : Heap} {locs : List Loc} {ls : Array Slot} {stk rest : List Value} {r : qv_Res} {av : Array Value} {Qw : State → Prop} {mc ms : Nat} (hr : va_Run (gp G) (gl G) (ge G) (gR G) (gs G) (gm G) (ga G) (gb G) (gM G) (gc G) H locs cs.1 cs.2 mc ms (F0 (gm G) pc ls stk) rest (qv_Qo X T1 r av) (qv_A X)) (hS : va_S (qv_A X) (gs G).heap H locs)
    (kk : ∀ (H1 : Heap) (locs1 : List Loc), qv_Hp X T1 r.2 H1 → va_S (qv_A X) (gs G).heap H1 locs1 → W (gp G) (gl G) (ge G) (gR G) (gs G) (gm G) (ga G) (gb G) (gM G) (gc G) H1 locs1 (cs.1 + mc) (cs.2 + ms) Qw (F0 (gm G) (pc + 3) ls (r.1.toList ++ rest))) : W (gp G) (gl G) (ge G) (gR G) (gs G) (gm G) (ga G) (gb G) (gM G) (gc G) H locs cs.1 cs.2 Qw (F0 (gm G) pc ls stk) := by
  intro T0 hT X0
  obtain ⟨v, st₀, t, T', L, h0, X', hL, e1, e2, ⟨hv, hb, hz, hk⟩, st⟩ := hr T0 hT X0
  cases hv
  rw [h0] at hz hk
  obtain ⟨t2, a1, b1⟩ := kk T'.heap (locs ++ L) (by rw [e1]; exact hb.1) ⟨Nat.le_trans hS.1 (by rw [e1]; exact hz), fun q h1 h2 => by rw [e1, hk q (Nat.lt_of_lt_of_le h1 hS.1) h2]; exact hS.2.1 q h1 h2, fun q hq => by
      rcases List.mem_append.mp hq with h | h
      · exact hS.2.2 q h
      · exact hL q h⟩ T' rfl X'
  exact ⟨t2, st t2 a1, b1⟩
/-- a constructor is called -/
theorem qv_ci (g : qv_ok G X cc own nL) {y : MethodName} {bytes : ByteArray} {maxL d mc ms index id : Nat} {T1 T2 : List qv_Ent} {o1 : Option qv_Mem} {k : qv_Mem → Option α} (hM : qv_OkC (gl G) X y bytes maxL d mc ms T T1 M [.ref (X.2.2.2 + id)] o1) (hT : T1 = T2) (hR : d + 2 ≤ (gR G).frames ∧ 19 + maxL + 64 * (d + 1) ≤ (gR G).locals) (hc : cs.1 + mc ≤ (gR G).cells ∧ cs.2 + ms ≤ (gR G).slots) (hw : qv_mw y bytes maxL none) (hl : Cond.methodLink own index y ∈ qv_gt) (hin : Cond.instanceMethod y ∈ qv_gt) (hy : y.name = "<init>") (hn : (parseMethodDescriptor y.desc).map (fun d => d.parameters.length) = some 0) (hrs : (st.map fun v => v.category).sum ≤ 8) (hd : decode cc pc = .ok (.invokespecial index, 3)) (kk : ∀ M1, qv_V G X nL Q T2 (cs.1 + mc, cs.2 + ms) (pc + 3) lv st M1 (k M1)) : qv_V G X nL Q T cs pc lv (.ref (X.2.2.2 + id) :: st) M (qv_bo o1 k) := by
  subst hT
  intro a ha ls H locs h1 h2 h3
  have hts := g.2.2.2.2.1
  cases e : o1 with
  | none => rw [e] at ha; cases ha
  | some b =>
    rw [e] at ha
    exact qv_runC (va_runI (As := []) (rest := st) (Ts := qv_gt) (own := own) ⟨g.1, g.2.1, g.2.2.1, g.2.2.2.1, hts⟩ (hM b e) ⟨callB_of 0 hts (qv_goodc hw) rfl rfl rfl (hts _ hw.2.1) (hts _ hl) ⟨hw.2.2.1, hw.2.2.2, hn⟩ ⟨hR.1, by show 8 + (maxL + 11) + 64 * (d + 1) ≤ _; omega⟩, hy, hts _ hin⟩ ⟨qv_blind _ _ (fun U g mk a h => h.blind g mk a), fun U hU hW => qv_pre g h2 h3 _ U hU hW⟩ rfl rfl h1.1 rfl (lv_room hrs) hd hc) h3 (fun H1 locs1 i2 i3 => kk b a ha ls H1 locs1 h1 i2 i3)
theorem qv_cin (g : qv_ok G X cc own nL) {y : MethodName} {bytes : ByteArray} {maxL d mc ms index id : Nat} {host : String} {T1 T2 : List qv_Ent} {o1 : Option qv_Mem} {k : qv_Mem → Option α} (hM : qv_OkC (gl G) X y bytes maxL d mc ms T T1 M [.ref (X.2.2.2 + id)] o1) (hT : T1 = T2) (hR : d + 2 ≤ (gR G).frames ∧ 19 + maxL + 64 * (d + 1) ≤ (gR G).locals) (hc : cs.1 + mc ≤ (gR G).cells ∧ cs.2 + ms ≤ (gR G).slots) (hw : qv_mw y bytes maxL none) (hl : Cond.methodLinkNest own index y host ∈ qv_nst) (hin : Cond.instanceMethod y ∈ qv_gt) (hy : y.name = "<init>") (hn : (parseMethodDescriptor y.desc).map (fun d => d.parameters.length) = some 0) (hrs : (st.map fun v => v.category).sum ≤ 8) (hd : decode cc pc = .ok (.invokespecial index, 3)) (kk : ∀ M1, qv_V G X nL Q T2 (cs.1 + mc, cs.2 + ms) (pc + 3) lv st M1 (k M1)) : qv_V G X nL Q T cs pc lv (.ref (X.2.2.2 + id) :: st) M (qv_bo o1 k) := by
  subst hT
  intro a ha ls H locs h1 h2 h3
  have hts := g.2.2.2.2.1
  cases e : o1 with
  | none => rw [e] at ha; cases ha
  | some b =>
    rw [e] at ha
    exact qv_runC (va_runIN (As := []) (rest := st) (Ts := qv_gt) (own := own) ⟨g.1, g.2.1, g.2.2.1, g.2.2.2.1, hts⟩ (hM b e) ⟨va_cnB 0 hts (qv_goodc hw) rfl rfl rfl (g.2.2.2.2.2.1.2.2.2.1 _ hl) (hts _ hw.2.1) ⟨hw.2.2.1, hw.2.2.2, hn⟩ ⟨hR.1, by show 8 + (maxL + 11) + 64 * (d + 1) ≤ _; omega⟩, hy, hts _ hin⟩ ⟨qv_blind _ _ (fun U g mk a h => h.blind g mk a), fun U hU hW => qv_pre g h2 h3 _ U hU hW⟩ rfl rfl h1.1 rfl (lv_room hrs) hd hc) h3 (fun H1 locs1 i2 i3 => kk b a ha ls H1 locs1 h1 i2 i3)
theorem qv_geF (g : qv_ok G X cc own nL) {x y : Int32} {off : Int} {tgt : Nat} (hd : decode cc pc = .ok (.if_icmp .ge off, 3)) (ht : (pc : Int) + off = (tgt : Int)) (h : ¬ y ≤ x) (k : qv_V G X nL Q T cs (pc + 3) lv st M o) : qv_V G X nL Q T cs pc lv (.int y :: .int x :: st) M o := fun a ha ls H locs h1 h2 h3 => lv_icmp_ge g.1 g.2.1 hd ht (fun c => absurd c h) (fun c => k a ha ls H locs h1 h2 h3)
theorem qv_geT (g : qv_ok G X cc own nL) {x y : Int32} {off : Int} {tgt : Nat} (hd : decode cc pc = .ok (.if_icmp .ge off, 3)) (ht : (pc : Int) + off = (tgt : Int)) (h : y ≤ x) (k : qv_V G X nL Q T cs tgt lv st M o) : qv_V G X nL Q T cs pc lv (.int y :: .int x :: st) M o := fun a ha ls H locs h1 h2 h3 => lv_icmp_ge g.1 g.2.1 hd ht (fun c => k a ha ls H locs h1 h2 h3) (fun c => absurd h c)
/-- a field that isn't final, of an object that is being made -/
theorem qv_put1 (g : qv_ok G X cc own nL) {index ci k id s : Nat} {fs : List (Option (Option Nat))} {v : Int32} {kk : qv_Mem → Option α} {ty : FieldType} (hf : qv_pw own index ci k false ty) (hn : narrow ty (.int v) = .int v) (hfit : fits ty (.int v) = true) (hci : ci < 20) (he : T[id]? = some (ci, s, fs)) (hk : k < fs.length) (h0 : fs[k]? = some none) (hd : decode cc pc = .ok (.putfield index, 3)) (h : ∀ M1, qv_V G X nL Q T cs (pc + 3) lv st M1 (kk M1)) : qv_V G X nL Q T cs pc lv (.int v :: .ref (X.2.2.2 + id) :: st) M (qv_pS id k v M kk) := qv_put g hf hci he hk h0 hn hfit hd (h _)
/-- a reference of an object that is being made -/
theorem qv_get1 (g : qv_ok G X cc own nL) {index ci k id s r : Nat} {fs : List (Option (Option Nat))} (hf : qv_fw own index ci k) (hci : ci < 20) (he : T[id]? = some (ci, s, fs)) (hr : fs[k]? = some (some (some r))) (hd : decode cc pc = .ok (.getfield index, 3)) (h : qv_V G X nL Q T cs (pc + 3) lv (.ref (X.2.2.2 + r) :: st) M o) : qv_V G X nL Q T cs pc lv (.ref (X.2.2.2 + id) :: st) M o := by
  have hk : k < fs.length := (List.getElem?_eq_some_iff.mp hr).1
  refine qv_get g hf hci he hk ?_ hd h
  rw [List.getD_eq_getElem?_getD, hr]
  rfl
end QN
/-- whether what is known of a cell holds: by program -/
def qv_isb : Nat → List qv_Ent → Nat → Nat → Nat → Bool
  | 0, T, c, s, id => match T[id]? with
    | none => false
    | some e => decide (e.1 = c) && decide (e.2.1 = s)
  | n + 1, T, c, s, id => match T[id]? with
    | none => false
    | some e => decide (e.1 = c) && (decide (e.2.1 = s) && (decide (c = 20) || (decide (c = 21) || (decide (e.2.2.length = s) && (List.range s).all (fun k => match qv_kd c k with
      | none => decide (e.2.2[k]? = some none)
      | some q => match e.2.2[k]? with
        | some (some (some r)) => qv_isb n T q.1 q.2 r
        | _ => false)))))
theorem qv_isb_is : ∀ (n : Nat) (T : List qv_Ent) (c s id : Nat), qv_isb n T c s id = true → qv_is n T c s id
  | 0, T, c, s, id, h => by
    unfold qv_isb at h
    cases e : T[id]? with
    | none => rw [e] at h; cases h
    | some q =>
      rw [e] at h
      simp only [Bool.and_eq_true, decide_eq_true_eq] at h
      obtain ⟨h1, h2⟩ := h
      exact ⟨q.2.2, by rw [e, ← h1, ← h2]⟩
  | n + 1, T, c, s, id, h => by
    unfold qv_isb at h
    cases e : T[id]? with
    | none => rw [e] at h; cases h
    | some q =>
      rw [e] at h
      simp only [Bool.and_eq_true, Bool.or_eq_true, decide_eq_true_eq] at h
      obtain ⟨h1, h2, h3⟩ := h
      refine ⟨q.2.2, by rw [e, ← h1, ← h2], ?_⟩
      rcases h3 with h3 | h3 | ⟨h3, h4⟩
      · exact Or.inl h3
      · exact Or.inr (Or.inl h3)
      · refine Or.inr (Or.inr ⟨h3, fun k hk => ?_⟩)
        have h5 := List.all_eq_true.mp h4 k (List.mem_range.mpr hk)
        cases e2 : qv_kd c k with
        | none => rw [e2] at h5; simpa using h5
        | some w =>
          rw [e2] at h5
          cases e3 : q.2.2[k]? with
          | none => rw [e3] at h5; cases h5
          | some u =>
            rw [e3] at h5
            match u, h5 with
            | some (some r), h5 => exact ⟨r, rfl, qv_isb_is n T w.1 w.2 r h5⟩
