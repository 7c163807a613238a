/-! THE CLAIM OUT OF ONE WALK OF THE LAW'S BODY. Your part is whole_start (and what it stands on); all else here is the same for every law, but numbers. -/
def R_law : String := "RootGatesLaw"
def lw_P (b : Addr) (xs : List Int32) (args : Array Value) (s : State) : Prop := args = #[.ref b] ∧ s.IntsAt b xs ∧ xs.length ≤ 2560 ∧ (Jvm.Cond.and given_1 narrow_1).before args s = true
def lw_Q (_ : Array Value) (s : State) (o : Outcome) (t : State) : Prop := o = .returned (some (.int 1)) ∧ Framed s o t [] 600000 7302250
def lw_Z (below : List Frame) (a : Array Value) (s : State) : State → Prop := fun t => ∃ o, t.status = .running ∧ Ended t below o ∧ lw_Q a s o t
/-- the law's own end, with 1 on the stack, nothing written that was there before, its room as the claim has it -/
theorem lw_ret {p : Program} {l : Launch} {e : Env} {s : State} {m : MethodId} {below : List Frame} {meth : Method} {c : Code} {b : Nat} (hx : p.tables.exec = Jvm.exec) (hb : c.code = code) (hr : meth.sig.returnType = ret) (hlocks : meth.locks = false) {pc : Nat} {H : Heap} {ls : Array Slot} (hdg : decode code pc = .ok (.ireturn, 1)) : W p l e room_1 s m #[Value.ref b] below meth c H [] 600000 7302250 (lw_Z below #[Value.ref b] s) (F0 m pc ls [.int 1]) := by
  intro T hT X
  obtain ⟨fs, hret, hrun, hended, hW, hframe⟩ := X.leave (v := some (.int 1)) (hlocks := hlocks) (fun h => by rw [hr] at h; cases h)
  have hmeth' : T.vm.method? m = some meth := X.method'
  refine ⟨T.setFrames fs, ?_, .returned (some (.int 1)), hrun, hended, rfl, ⟨_, rfl⟩, hW, hframe⟩
  jvm_step X.here [X.here.top, hx, hb, hdg, hmeth', hr, ret, narrow_b1]
  (try refine ⟨rfl, ?_⟩); (try refine ⟨rfl, ?_⟩)
  first | (intro acts; rw [hret _ acts rfl rfl rfl]) | rw [hret _ _ rfl rfl rfl]
  exact Steps.refl _
/-- what holds at the law's entry: the machine, the code, the tables' words (any of lw_tbl by 'hts w (by decide +kernel)'), the script of L ints xs at the cell b, what the Statement gives of the start (any of its parts by flat_of_before) -/
def lw_At (p : Program) (s : State) (m : MethodId) (meth : Method) (c : Code) (b L : Nat) (xs : Nat → Int32) : Prop :=
  p.tables.exec = Jvm.exec ∧ c.code = code ∧ meth.sig.returnType = ret ∧ c.maxLocals = 4 ∧ s.vm.findClass R_law = some m.cls ∧ (∀ w ∈ lw_tbl, w.before #[Value.ref b] s = true) ∧ va_X b L xs s s.heap ∧ b < s.heap.size ∧ meth.locks = false ∧ (Jvm.Cond.and given_1 narrow_1).before #[Value.ref b] s = true
def qv_TT : List qv_Ent := K_X9 0 ++ K_X10 106
def qv_sc {α : Type} (xs : Nat → Int32) (Ls : Nat) (i : Int32) (k : Int32 → Option α) : Option α := if qv_inb i Ls = true then k (xs i.toNatClampNeg) else none
section QS
variable {α : Type} {G : qv_G} {X : qv_X} {nL : Nat} {Q : α → State → Prop} {T : List qv_Ent} {cs : Nat × Nat} {pc : Nat} {lv : List (Nat × Value)} {st : List Value} {M : qv_Mem} {o : Option α} {cc : ByteArray} {own : String}
theorem qv_slen (g : qv_ok G X cc own nL) {bb Ls : Nat} {xs : Nat → Int32} (hX : va_X bb Ls xs (gs G) (gs G).heap) (hbl : bb < (gs G).heap.size) (hbA : ¬ qv_A X bb) (hd : decode cc pc = .ok (.arraylength, 1)) (k : qv_V G X nL Q T cs (pc + 1) lv (.int (nI Ls) :: st) M o) : qv_V G X nL Q T cs pc lv (.ref bb :: st) M o := fun a ha ls H locs h1 h2 h3 => va_slen g.1 g.2.1 hX hbl hbA h3 hd (k a ha ls H locs h1 h2 h3)
theorem qv_sald (g : qv_ok G X cc own nL) {bb Ls : Nat} {xs : Nat → Int32} {i : Int32} {kk : Int32 → Option α} (hX : va_X bb Ls xs (gs G) (gs G).heap) (hbl : bb < (gs G).heap.size) (hbA : ¬ qv_A X bb) (hd : decode cc pc = .ok (.iaload, 1)) (k : ∀ v, qv_V G X nL Q T cs (pc + 1) lv (.int v :: st) M (kk v)) : qv_V G X nL Q T cs pc lv (.int i :: .ref bb :: st) M (qv_sc xs Ls i kk) := by
  unfold qv_sc
  refine qv_ite _ (fun hz => ?_) (fun _ => qv_none)
  intro a ha ls H locs h1 h2 h3
  exact va_sld g.1 g.2.1 hX hbl hbA h3 (qv_inb_in hz) hd (k _ a ha ls H locs h1 h2 h3)
theorem qv_RL {dc maxL : Nat} (hRm : gR G = room_1) (h : dc + 2 ≤ 2048) (hm : 19 + maxL + 64 * (dc + 1) ≤ 84000) : dc + 2 ≤ (gR G).frames ∧ 19 + maxL + 64 * (dc + 1) ≤ (gR G).locals := by
  rw [hRm]
  exact ⟨h, hm⟩
theorem qv_cL {a c : Nat} (hRm : gR G = room_1) (h1 : a ≤ 600000) (h2 : c ≤ 7302250) : a ≤ (gR G).cells ∧ c ≤ (gR G).slots := by
  rw [hRm]
  exact ⟨h1, h2⟩
end QS
noncomputable def b_L_law_18 (xs : Nat → Int32) (Ls : Nat) (k2 : qv_Mem → Option Unit) : (Int32 → qv_Mem → Option Unit) → Int32 → qv_Mem → Option Unit := fun r5 v3 M4 =>
 (if ((nI Ls) - 5) < v3 then
 k2 M4
 else
 qv_sc xs Ls v3 (fun v6 =>
 qv_jn (fun (M7 : qv_Mem) =>
 r5 (v3 + 5) M7) (fun k8 =>
 (if (v6 &&& 31) = 0 then
 qv_sc xs Ls (v3 + 1) (fun v9 =>
 qv_bp (f_X9_one qv_TT 0 v9 M4) (fun v10 M11 =>
 qv_sc xs Ls (v3 + 1) (fun v12 =>
 qv_bp (f_X10_one qv_TT 106 v12 M11) (fun v13 M14 =>
 (if v10 = v13 then
 k8 M14
 else
 none)))))
 else
 (if (v6 &&& 31) = 1 then
 qv_sc xs Ls (v3 + 1) (fun v17 =>
 qv_sc xs Ls (v3 + 2) (fun v18 =>
 qv_bp (f_X9_gate qv_TT 0 v17 v18 M4) (fun v19 M20 =>
 qv_sc xs Ls (v3 + 1) (fun v21 =>
 qv_sc xs Ls (v3 + 2) (fun v22 =>
 qv_bp (f_X10_gate qv_TT 106 v21 v22 M20) (fun v23 M24 =>
 (if v19 = v23 then
 k8 M24
 else
 none)))))))
 else
 (if (v6 &&& 31) = 2 then
 qv_sc xs Ls (v3 + 1) (fun v27 =>
 qv_sc xs Ls (v3 + 2) (fun v28 =>
 qv_bp (f_X9_ahead qv_TT 0 v27 v28 M4) (fun v29 M30 =>
 qv_sc xs Ls (v3 + 1) (fun v31 =>
 qv_sc xs Ls (v3 + 2) (fun v32 =>
 qv_bp (f_X10_ahead qv_TT 106 v31 v32 M30) (fun v33 M34 =>
 (if v29 = v33 then
 k8 M34
 else
 none)))))))
 else
 (if (v6 &&& 31) = 3 then
 qv_sc xs Ls (v3 + 1) (fun v37 =>
 qv_sc xs Ls (v3 + 2) (fun v38 =>
 qv_sc xs Ls (v3 + 3) (fun v39 =>
 qv_bp (f_X9_times qv_TT 0 v37 v38 v39 M4) (fun v40 M41 =>
 qv_sc xs Ls (v3 + 1) (fun v42 =>
 qv_sc xs Ls (v3 + 2) (fun v43 =>
 qv_sc xs Ls (v3 + 3) (fun v44 =>
 qv_bp (f_X10_times qv_TT 106 v42 v43 v44 M41) (fun v45 M46 =>
 (if v40 = v45 then
 k8 M46
 else
 none)))))))))
 else
 (if (v6 &&& 31) = 4 then
 qv_sc xs Ls (v3 + 1) (fun v49 =>
 qv_bp (f_X9_turn qv_TT 0 v49 M4) (fun v50 M51 =>
 qv_sc xs Ls (v3 + 1) (fun v52 =>
 qv_bp (f_X10_turn qv_TT 106 v52 M51) (fun v53 M54 =>
 (if v50 = v53 then
 k8 M54
 else
 none)))))
 else
 (if (v6 &&& 31) = 5 then
 qv_sc xs Ls (v3 + 1) (fun v57 =>
 qv_sc xs Ls (v3 + 2) (fun v58 =>
 qv_sc xs Ls (v3 + 3) (fun v59 =>
 qv_sc xs Ls (v3 + 4) (fun v60 =>
 qv_bo (f_X9_part qv_TT 0 v57 v58 v59 v60 M4) (fun v61 =>
 qv_sc xs Ls (v3 + 1) (fun v62 =>
 qv_sc xs Ls (v3 + 2) (fun v63 =>
 qv_sc xs Ls (v3 + 3) (fun v64 =>
 qv_sc xs Ls (v3 + 4) (fun v65 =>
 qv_bo (f_X10_part qv_TT 106 v62 v63 v64 v65 M4) (fun v66 =>
 (if (lg_cmp v61 v66) = 0 then
 k8 M4
 else
 none)))))))))))
 else
 (if (v6 &&& 31) = 6 then
 qv_sc xs Ls (v3 + 1) (fun v69 =>
 qv_bo (f_X9_e qv_TT 0 v69 M4) (fun v70 =>
 qv_sc xs Ls (v3 + 1) (fun v71 =>
 qv_bo (f_X10_e qv_TT 106 v71 M4) (fun v72 =>
 (if v70 = v72 then
 k8 M4
 else
 none)))))
 else
 (if (v6 &&& 31) = 7 then
 qv_sc xs Ls (v3 + 1) (fun v75 =>
 qv_sc xs Ls (v3 + 2) (fun v76 =>
 qv_bp (f_X9_phase qv_TT 0 v75 v76 M4) (fun v77 M78 =>
 qv_sc xs Ls (v3 + 1) (fun v79 =>
 qv_sc xs Ls (v3 + 2) (fun v80 =>
 qv_bp (f_X10_phase qv_TT 106 v79 v80 M78) (fun v81 M82 =>
 (if v77 = v81 then
 k8 M82
 else
 none)))))))
 else
 (if (v6 &&& 31) = 8 then
 qv_sc xs Ls (v3 + 1) (fun v85 =>
 qv_sc xs Ls (v3 + 2) (fun v86 =>
 qv_sc xs Ls (v3 + 3) (fun v87 =>
 qv_sc xs Ls (v3 + 4) (fun v88 =>
 qv_bp (f_X9_channel qv_TT 0 v85 v86 v87 v88 M4) (fun v89 M90 =>
 qv_sc xs Ls (v3 + 1) (fun v91 =>
 qv_sc xs Ls (v3 + 2) (fun v92 =>
 qv_sc xs Ls (v3 + 3) (fun v93 =>
 qv_sc xs Ls (v3 + 4) (fun v94 =>
 qv_bp (f_X10_channel qv_TT 106 v91 v92 v93 v94 M90) (fun v95 M96 =>
 (if (lg_cmp v89 v95) = 0 then
 k8 M96
 else
 none)))))))))))
 else
 (if (v6 &&& 31) = 9 then
 qv_sc xs Ls (v3 + 1) (fun v99 =>
 qv_bp (f_X9_count qv_TT 0 v99 M4) (fun v100 M101 =>
 qv_sc xs Ls (v3 + 1) (fun v102 =>
 qv_bp (f_X10_count qv_TT 106 v102 M101) (fun v103 M104 =>
 (if v100 = v103 then
 k8 M104
 else
 none)))))
 else
 (if (v6 &&& 31) = 10 then
 qv_sc xs Ls (v3 + 1) (fun v107 =>
 qv_bp (f_X9_clifford qv_TT 0 v107 M4) (fun v108 M109 =>
 qv_sc xs Ls (v3 + 1) (fun v110 =>
 qv_bo (f_X10_clifford qv_TT 106 v110 M109) (fun v111 =>
 (if v108 = v111 then
 k8 M109
 else
 none)))))
 else
 (if (v6 &&& 31) = 11 then
 qv_sc xs Ls (v3 + 1) (fun v114 =>
 qv_sc xs Ls (v3 + 2) (fun v115 =>
 qv_bp (f_X9_take qv_TT 0 v114 v115 M4) (fun v116 M117 =>
 qv_sc xs Ls (v3 + 1) (fun v118 =>
 qv_sc xs Ls (v3 + 2) (fun v119 =>
 qv_bp (f_X10_take qv_TT 106 v118 v119 M117) (fun v120 M121 =>
 (if v116 = v120 then
 k8 M121
 else
 none)))))))
 else
 (if (v6 &&& 31) = 12 then
 qv_sc xs Ls (v3 + 1) (fun v124 =>
 qv_sc xs Ls (v3 + 2) (fun v125 =>
 qv_bp (f_X9_leads qv_TT 0 v124 v125 M4) (fun v126 M127 =>
 qv_sc xs Ls (v3 + 1) (fun v128 =>
 qv_sc xs Ls (v3 + 2) (fun v129 =>
 qv_bo (f_X10_leads qv_TT 106 v128 v129 M127) (fun v130 =>
 (if v126 = v130 then
 k8 M127
 else
 none)))))))
 else
 (if (v6 &&& 31) = 13 then
 qv_sc xs Ls (v3 + 1) (fun v133 =>
 qv_sc xs Ls (v3 + 2) (fun v134 =>
 qv_bp (f_X9_price qv_TT 0 v133 v134 M4) (fun v135 M136 =>
 qv_sc xs Ls (v3 + 1) (fun v137 =>
 qv_sc xs Ls (v3 + 2) (fun v138 =>
 qv_bp (f_X10_price qv_TT 106 v137 v138 M136) (fun v139 M140 =>
 (if v135 = v139 then
 k8 M140
 else
 none)))))))
 else
 (if (v6 &&& 31) = 14 then
 qv_sc xs Ls (v3 + 1) (fun v143 =>
 qv_sc xs Ls (v3 + 2) (fun v144 =>
 qv_bp (f_X9_cheapest qv_TT 0 v143 v144 M4) (fun v145 M146 =>
 qv_sc xs Ls (v3 + 1) (fun v147 =>
 qv_sc xs Ls (v3 + 2) (fun v148 =>
 qv_bp (f_X10_cheapest qv_TT 106 v147 v148 M146) (fun v149 M150 =>
 (if v145 = v149 then
 k8 M150
 else
 none)))))))
 else
 (if (v6 &&& 31) = 15 then
 qv_sc xs Ls (v3 + 1) (fun v153 =>
 qv_sc xs Ls (v3 + 2) (fun v154 =>
 qv_bp (f_X9_push qv_TT 0 v153 v154 M4) (fun v155 M156 =>
 qv_sc xs Ls (v3 + 1) (fun v157 =>
 qv_sc xs Ls (v3 + 2) (fun v158 =>
 qv_bp (f_X10_push qv_TT 106 v157 v158 M156) (fun v159 M160 =>
 (if v155 = v159 then
 k8 M160
 else
 none)))))))
 else
 (if (v6 &&& 31) = 16 then
 qv_sc xs Ls (v3 + 1) (fun v163 =>
 qv_bp (f_X9_pull qv_TT 0 v163 M4) (fun v164 M165 =>
 qv_sc xs Ls (v3 + 1) (fun v166 =>
 qv_bp (f_X10_pull qv_TT 106 v166 M165) (fun v167 M168 =>
 (if v164 = v167 then
 k8 M168
 else
 none)))))
 else
 (if (v6 &&& 31) = 17 then
 qv_sc xs Ls (v3 + 1) (fun v171 =>
 qv_sc xs Ls (v3 + 2) (fun v172 =>
 qv_bo (f_X9_word qv_TT 0 v171 v172 M4) (fun v173 =>
 qv_sc xs Ls (v3 + 1) (fun v174 =>
 qv_sc xs Ls (v3 + 2) (fun v175 =>
 qv_bo (f_X10_word qv_TT 106 v174 v175 M4) (fun v176 =>
 (if v173 = v176 then
 k8 M4
 else
 none)))))))
 else
 (if (v6 &&& 31) = 18 then
 qv_sc xs Ls (v3 + 1) (fun v179 =>
 qv_sc xs Ls (v3 + 2) (fun v180 =>
 qv_bp (f_X9_value qv_TT 0 v179 v180 M4) (fun v181 M182 =>
 qv_sc xs Ls (v3 + 1) (fun v183 =>
 qv_sc xs Ls (v3 + 2) (fun v184 =>
 qv_bp (f_X10_value qv_TT 106 v183 v184 M182) (fun v185 M186 =>
 (if v181 = v185 then
 k8 M186
 else
 none)))))))
 else
 (if (v6 &&& 31) = 19 then
 qv_sc xs Ls (v3 + 1) (fun v189 =>
 qv_bp (f_X9_shorter qv_TT 0 v189 M4) (fun v190 M191 =>
 qv_sc xs Ls (v3 + 1) (fun v192 =>
 qv_bp (f_X10_shorter qv_TT 106 v192 M191) (fun v193 M194 =>
 (if v190 = v193 then
 k8 M194
 else
 none)))))
 else
 (if (v6 &&& 31) = 20 then
 qv_sc xs Ls (v3 + 1) (fun v197 =>
 qv_sc xs Ls (v3 + 2) (fun v198 =>
 qv_bp (f_X9_normal qv_TT 0 v197 v198 M4) (fun v199 M200 =>
 qv_sc xs Ls (v3 + 1) (fun v201 =>
 qv_sc xs Ls (v3 + 2) (fun v202 =>
 qv_bp (f_X10_normal qv_TT 106 v201 v202 M200) (fun v203 M204 =>
 (if v199 = v203 then
 k8 M204
 else
 none)))))))
 else
 (if (v6 &&& 31) = 21 then
 qv_sc xs Ls (v3 + 1) (fun v207 =>
 qv_sc xs Ls (v3 + 2) (fun v208 =>
 qv_sc xs Ls (v3 + 3) (fun v209 =>
 qv_bp (f_X9_fits qv_TT 0 v207 v208 v209 M4) (fun v210 M211 =>
 qv_sc xs Ls (v3 + 1) (fun v212 =>
 qv_sc xs Ls (v3 + 2) (fun v213 =>
 qv_sc xs Ls (v3 + 3) (fun v214 =>
 qv_bp (f_X10_fits qv_TT 106 v212 v213 v214 M211) (fun v215 M216 =>
 (if v210 = v215 then
 k8 M216
 else
 none)))))))))
 else
 (if (v6 &&& 31) = 22 then
 qv_sc xs Ls (v3 + 1) (fun v219 =>
 qv_sc xs Ls (v3 + 2) (fun v220 =>
 qv_bp (f_X9_parts qv_TT 0 v219 v220 M4) (fun v221 M222 =>
 qv_sc xs Ls (v3 + 1) (fun v223 =>
 qv_sc xs Ls (v3 + 2) (fun v224 =>
 qv_bp (f_X10_parts qv_TT 106 v223 v224 M222) (fun v225 M226 =>
 (if v221 = v225 then
 k8 M226
 else
 none)))))))
 else
 (if (v6 &&& 31) = 23 then
 qv_bp (f_X9_undo qv_TT 0 M4) (fun v229 M230 =>
 qv_bp (f_X10_undo qv_TT 106 M230) (fun v231 M232 =>
 (if v229 = v231 then
 k8 M232
 else
 none)))
 else
 (if (v6 &&& 31) = 24 then
 qv_sc xs Ls (v3 + 1) (fun v235 =>
 qv_bp (f_X9_feed qv_TT 0 v235 M4) (fun v236 M237 =>
 qv_sc xs Ls (v3 + 1) (fun v238 =>
 qv_bp (f_X10_feed qv_TT 106 v238 M237) (fun v239 M240 =>
 (if v236 = v239 then
 k8 M240
 else
 none)))))
 else
 (if (v6 &&& 31) = 25 then
 qv_bp (f_X9_wipe qv_TT 0 M4) (fun v243 M244 =>
 qv_bp (f_X10_wipe qv_TT 106 M244) (fun v245 M246 =>
 (if v243 = v245 then
 k8 M246
 else
 none)))
 else
 (if (v6 &&& 31) = 26 then
 qv_sc xs Ls (v3 + 1) (fun v249 =>
 qv_bp (f_X9_write qv_TT 0 v249 M4) (fun v250 M251 =>
 qv_sc xs Ls (v3 + 1) (fun v252 =>
 qv_bp (f_X10_write qv_TT 106 v252 M251) (fun v253 M254 =>
 (if v250 = v253 then
 k8 M254
 else
 none)))))
 else
 (if (v6 &&& 31) = 27 then
 qv_bp (f_X9_image qv_TT 0 M4) (fun v257 M258 =>
 qv_bp (f_X10_image qv_TT 106 M258) (fun v259 M260 =>
 (if v257 = v259 then
 k8 M260
 else
 none)))
 else
 (if (v6 &&& 31) = 28 then
 qv_bp (f_X9_restore qv_TT 0 M4) (fun v263 M264 =>
 qv_bp (f_X10_restore qv_TT 106 M264) (fun v265 M266 =>
 (if v263 = v265 then
 k8 M266
 else
 none)))
 else
 (if (v6 &&& 31) = 29 then
 qv_sc xs Ls (v3 + 1) (fun v269 =>
 qv_bo (f_X9_told qv_TT 0 v269 M4) (fun v270 =>
 qv_sc xs Ls (v3 + 1) (fun v271 =>
 qv_bo (f_X10_told qv_TT 106 v271 M4) (fun v272 =>
 (if v270 = v272 then
 k8 M4
 else
 none)))))
 else
 k8 M4)))))))))))))))))))))))))))))))))
noncomputable def f_law (xs : Nat → Int32) (Ls : Nat) (M : qv_Mem) : Option Unit :=
 qv_jn (fun (M1 : qv_Mem) =>
 some ()) (fun k2 =>
 qv_lp2 (b_L_law_18 xs Ls k2) qv_N 0 M)
set_option maxHeartbeats 8000000 in
set_option maxRecDepth 100000 in
theorem c_law (G : qv_G) (X : qv_X) {bb Ls : Nat} {xs : Nat → Int32} (hRm : gR G = room_1) (g : qv_ok G X cL_law RL 4) (hX : va_X bb Ls xs (gs G) (gs G).heap) (hbl : bb < (gs G).heap.size) (hbA : ¬ qv_A X bb) (hret : ∀ (pc : Nat) (lv : List (Nat × Value)) (M : qv_Mem), decode cL_law pc = .ok (.ireturn, 1) → qv_V G X 4 (fun (_ : Unit) => lw_Z (gb G) (ga G) (gs G)) qv_TT (128, 13826) pc lv [.int 1] M (some ())) (hx0 : qv_is (0 + 4) qv_TT 9 14 0) (hm0 : qv_is (0 + 1) qv_TT 10 29 106) (M : qv_Mem) : qv_V G X 4 (fun (_ : Unit) => lw_Z (gb G) (ga G) (gs G)) qv_TT (128, 13826) 18 [(0, .ref bb), (1, .ref (X.2.2.2 + 0)), (2, .ref (X.2.2.2 + 106)), (3, .int 0)] [] M (f_law xs Ls M) := by
  unfold f_law
  refine qv_join (fun (k2 : qv_Mem → Option Unit) => ∀ (M1 : qv_Mem), qv_V G X 4 (fun (_ : Unit) => lw_Z (gb G) (ga G) (gs G)) qv_TT (128, 13826) 1046 [] [] M1 (k2 M1)) (fun M1 => ?_) (fun k2 qk2 => ?_)
  · refine qv_iconst (v := 1) (pc := 1046) g dL_law_1046 (by decide) ?_
    exact hret _ _ _ dL_law_1047
  exact qv_L2 (Vh := fun (v3 : Int32) (M4 : qv_Mem) o => qv_V G X 4 (fun (_ : Unit) => lw_Z (gb G) (ga G) (gs G)) qv_TT (128, 13826) 18 [(0, .ref bb), (1, .ref (X.2.2.2 + 0)), (2, .ref (X.2.2.2 + 106)), (3, .int v3)] [] M4 o) (fun _ _ => qv_none) (fun r5 qr5 v3 M4 => by
    unfold b_L_law_18
    refine qv_iload_n (pc := 18) g dL_law_18 rfl rfl ?_
    refine qv_aload_n (pc := 19) g dL_law_19 rfl rfl ?_
    refine qv_slen (pc := 20) g hX hbl hbA dL_law_20 ?_
    refine qv_iconst (v := 5) (pc := 21) g dL_law_21 (by decide) ?_
    refine qv_isub (pc := 22) g dL_law_22 ?_
    refine qv_icmp_gt (pc := 23) (tgt := 1046) g dL_law_23 (by decide) ?_ ?_
    · refine qv_lv [] rfl ?_
      exact qk2 _
    · refine qv_aload_n (pc := 26) g dL_law_26 rfl rfl ?_
      refine qv_iload_n (pc := 27) g dL_law_27 rfl rfl ?_
      refine qv_sald (pc := 28) g hX hbl hbA dL_law_28 (fun v6 => ?_)
      refine qv_bipush (v := 31) (pc := 29) g dL_law_29 (by decide) ?_
      refine qv_iand (pc := 31) g dL_law_31 ?_
      refine qv_join (fun (k8 : qv_Mem → Option Unit) => ∀ (M7 : qv_Mem), qv_V G X 4 (fun (_ : Unit) => lw_Z (gb G) (ga G) (gs G)) qv_TT (128, 13826) 1040 [(0, .ref bb), (1, .ref (X.2.2.2 + 0)), (2, .ref (X.2.2.2 + 106)), (3, .int v3)] [] M7 (k8 M7)) (fun M7 => ?_) (fun k8 qk8 => ?_)
      · refine qv_iinc (pc := 1040) (v := (v3 + 5)) (lv1 := [(3, .int (v3 + 5)), (0, .ref bb), (1, .ref (X.2.2.2 + 0)), (2, .ref (X.2.2.2 + 106))]) g dL_law_1040 rfl rfl (by decide) rfl ?_
        refine qv_goto (pc := 1043) (tgt := 18) g dL_law_1043 (by decide) ?_
        refine qv_lv [1, 2, 3, 0] rfl ?_
        exact qr5 _ _
      refine qv_ite _ (fun e15 => ?_) (fun n16 => ?_)
      · refine qv_tabI (pc := 32) (tgt := 168) g dL_law_32 (by rw [e15]; decide) (by rw [e15]; decide) (by rw [e15]; rfl) (by decide) ?_
        refine qv_aload_n (pc := 168) g dL_law_168 rfl rfl ?_
        refine qv_aload_n (pc := 169) g dL_law_169 rfl rfl ?_
        refine qv_iload_n (pc := 170) g dL_law_170 rfl rfl ?_
        refine qv_iconst (v := 1) (pc := 171) g dL_law_171 (by decide) ?_
        refine qv_iadd (pc := 172) g dL_law_172 ?_
        refine qv_sald (pc := 173) g hX hbl hbA dL_law_173 (fun v9 => ?_)
        refine qv_aIM (qv_cv (pc := 174) g (c_X9_one (gl G) X 0 qv_TT _ _ M4 hx0) (qv_RL hRm (by decide) (by decide)) (qv_cL hRm (by decide) (by decide)) mw_X9_one lk_RL_13 im_X9_one se_X9_one (by decide) rfl hx0 pd_X9_one rfl (Nat.le_of_ble_eq_true rfl) dL_law_174) (fun v10 M11 => ?_)
        refine qv_aload_n (pc := 177) g dL_law_177 rfl rfl ?_
        refine qv_aload_n (pc := 178) g dL_law_178 rfl rfl ?_
        refine qv_iload_n (pc := 179) g dL_law_179 rfl rfl ?_
        refine qv_iconst (v := 1) (pc := 180) g dL_law_180 (by decide) ?_
        refine qv_iadd (pc := 181) g dL_law_181 ?_
        refine qv_sald (pc := 182) g hX hbl hbA dL_law_182 (fun v12 => ?_)
        refine qv_aIM (qv_cv (pc := 183) g (c_X10_one (gl G) X 0 qv_TT _ _ M11 hm0) (qv_RL hRm (by decide) (by decide)) (qv_cL hRm (by decide) (by decide)) mw_X10_one lk_RL_17 im_X10_one se_X10_one (by decide) rfl hm0 pd_X10_one rfl (Nat.le_of_ble_eq_true rfl) dL_law_183) (fun v13 M14 => ?_)
        refine qv_icmp_eq (pc := 186) (tgt := 1040) g dL_law_186 (by decide) ?_ ?_
        · exact qk8 _
        · refine qv_iconst (v := 0) (pc := 189) g dL_law_189 (by decide) ?_
          exact qv_none
      refine qv_ite _ (fun e25 => ?_) (fun n26 => ?_)
      · refine qv_tabI (pc := 32) (tgt := 191) g dL_law_32 (by rw [e25]; decide) (by rw [e25]; decide) (by rw [e25]; rfl) (by decide) ?_
        refine qv_aload_n (pc := 191) g dL_law_191 rfl rfl ?_
        refine qv_aload_n (pc := 192) g dL_law_192 rfl rfl ?_
        refine qv_iload_n (pc := 193) g dL_law_193 rfl rfl ?_
        refine qv_iconst (v := 1) (pc := 194) g dL_law_194 (by decide) ?_
        refine qv_iadd (pc := 195) g dL_law_195 ?_
        refine qv_sald (pc := 196) g hX hbl hbA dL_law_196 (fun v17 => ?_)
        refine qv_aload_n (pc := 197) g dL_law_197 rfl rfl ?_
        refine qv_iload_n (pc := 198) g dL_law_198 rfl rfl ?_
        refine qv_iconst (v := 2) (pc := 199) g dL_law_199 (by decide) ?_
        refine qv_iadd (pc := 200) g dL_law_200 ?_
        refine qv_sald (pc := 201) g hX hbl hbA dL_law_201 (fun v18 => ?_)
        refine qv_aIM (qv_cv (pc := 202) g (c_X9_gate (gl G) X 0 qv_TT _ _ _ M4 hx0) (qv_RL hRm (by decide) (by decide)) (qv_cL hRm (by decide) (by decide)) mw_X9_gate lk_RL_18 im_X9_gate se_X9_gate (by decide) rfl hx0 pd_X9_gate rfl (Nat.le_of_ble_eq_true rfl) dL_law_202) (fun v19 M20 => ?_)
        refine qv_aload_n (pc := 205) g dL_law_205 rfl rfl ?_
        refine qv_aload_n (pc := 206) g dL_law_206 rfl rfl ?_
        refine qv_iload_n (pc := 207) g dL_law_207 rfl rfl ?_
        refine qv_iconst (v := 1) (pc := 208) g dL_law_208 (by decide) ?_
        refine qv_iadd (pc := 209) g dL_law_209 ?_
        refine qv_sald (pc := 210) g hX hbl hbA dL_law_210 (fun v21 => ?_)
        refine qv_aload_n (pc := 211) g dL_law_211 rfl rfl ?_
        refine qv_iload_n (pc := 212) g dL_law_212 rfl rfl ?_
        refine qv_iconst (v := 2) (pc := 213) g dL_law_213 (by decide) ?_
        refine qv_iadd (pc := 214) g dL_law_214 ?_
        refine qv_sald (pc := 215) g hX hbl hbA dL_law_215 (fun v22 => ?_)
        refine qv_aIM (qv_cv (pc := 216) g (c_X10_gate (gl G) X 0 qv_TT _ _ _ M20 hm0) (qv_RL hRm (by decide) (by decide)) (qv_cL hRm (by decide) (by decide)) mw_X10_gate lk_RL_22 im_X10_gate se_X10_gate (by decide) rfl hm0 pd_X10_gate rfl (Nat.le_of_ble_eq_true rfl) dL_law_216) (fun v23 M24 => ?_)
        refine qv_icmp_eq (pc := 219) (tgt := 1040) g dL_law_219 (by decide) ?_ ?_
        · exact qk8 _
        · refine qv_iconst (v := 0) (pc := 222) g dL_law_222 (by decide) ?_
          exact qv_none
      refine qv_ite _ (fun e35 => ?_) (fun n36 => ?_)
      · refine qv_tabI (pc := 32) (tgt := 224) g dL_law_32 (by rw [e35]; decide) (by rw [e35]; decide) (by rw [e35]; rfl) (by decide) ?_
        refine qv_aload_n (pc := 224) g dL_law_224 rfl rfl ?_
        refine qv_aload_n (pc := 225) g dL_law_225 rfl rfl ?_
        refine qv_iload_n (pc := 226) g dL_law_226 rfl rfl ?_
        refine qv_iconst (v := 1) (pc := 227) g dL_law_227 (by decide) ?_
        refine qv_iadd (pc := 228) g dL_law_228 ?_
        refine qv_sald (pc := 229) g hX hbl hbA dL_law_229 (fun v27 => ?_)
        refine qv_aload_n (pc := 230) g dL_law_230 rfl rfl ?_
        refine qv_iload_n (pc := 231) g dL_law_231 rfl rfl ?_
        refine qv_iconst (v := 2) (pc := 232) g dL_law_232 (by decide) ?_
        refine qv_iadd (pc := 233) g dL_law_233 ?_
        refine qv_sald (pc := 234) g hX hbl hbA dL_law_234 (fun v28 => ?_)
        refine qv_aIM (qv_cv (pc := 235) g (c_X9_ahead (gl G) X 0 qv_TT _ _ _ M4 hx0) (qv_RL hRm (by decide) (by decide)) (qv_cL hRm (by decide) (by decide)) mw_X9_ahead lk_RL_23 im_X9_ahead se_X9_ahead (by decide) rfl hx0 pd_X9_ahead rfl (Nat.le_of_ble_eq_true rfl) dL_law_235) (fun v29 M30 => ?_)
        refine qv_aload_n (pc := 238) g dL_law_238 rfl rfl ?_
        refine qv_aload_n (pc := 239) g dL_law_239 rfl rfl ?_
        refine qv_iload_n (pc := 240) g dL_law_240 rfl rfl ?_
        refine qv_iconst (v := 1) (pc := 241) g dL_law_241 (by decide) ?_
        refine qv_iadd (pc := 242) g dL_law_242 ?_
        refine qv_sald (pc := 243) g hX hbl hbA dL_law_243 (fun v31 => ?_)
        refine qv_aload_n (pc := 244) g dL_law_244 rfl rfl ?_
        refine qv_iload_n (pc := 245) g dL_law_245 rfl rfl ?_
        refine qv_iconst (v := 2) (pc := 246) g dL_law_246 (by decide) ?_
        refine qv_iadd (pc := 247) g dL_law_247 ?_
        refine qv_sald (pc := 248) g hX hbl hbA dL_law_248 (fun v32 => ?_)
        refine qv_aIM (qv_cv (pc := 249) g (c_X10_ahead (gl G) X 0 qv_TT _ _ _ M30 hm0) (qv_RL hRm (by decide) (by decide)) (qv_cL hRm (by decide) (by decide)) mw_X10_ahead lk_RL_26 im_X10_ahead se_X10_ahead (by decide) rfl hm0 pd_X10_ahead rfl (Nat.le_of_ble_eq_true rfl) dL_law_249) (fun v33 M34 => ?_)
        refine qv_icmp_eq (pc := 252) (tgt := 1040) g dL_law_252 (by decide) ?_ ?_
        · exact qk8 _
        · refine qv_iconst (v := 0) (pc := 255) g dL_law_255 (by decide) ?_
          exact qv_none
      refine qv_ite _ (fun e47 => ?_) (fun n48 => ?_)
      · refine qv_tabI (pc := 32) (tgt := 257) g dL_law_32 (by rw [e47]; decide) (by rw [e47]; decide) (by rw [e47]; rfl) (by decide) ?_
        refine qv_aload_n (pc := 257) g dL_law_257 rfl rfl ?_
        refine qv_aload_n (pc := 258) g dL_law_258 rfl rfl ?_
        refine qv_iload_n (pc := 259) g dL_law_259 rfl rfl ?_
        refine qv_iconst (v := 1) (pc := 260) g dL_law_260 (by decide) ?_
        refine qv_iadd (pc := 261) g dL_law_261 ?_
        refine qv_sald (pc := 262) g hX hbl hbA dL_law_262 (fun v37 => ?_)
        refine qv_aload_n (pc := 263) g dL_law_263 rfl rfl ?_
        refine qv_iload_n (pc := 264) g dL_law_264 rfl rfl ?_
        refine qv_iconst (v := 2) (pc := 265) g dL_law_265 (by decide) ?_
        refine qv_iadd (pc := 266) g dL_law_266 ?_
        refine qv_sald (pc := 267) g hX hbl hbA dL_law_267 (fun v38 => ?_)
        refine qv_aload_n (pc := 268) g dL_law_268 rfl rfl ?_
        refine qv_iload_n (pc := 269) g dL_law_269 rfl rfl ?_
        refine qv_iconst (v := 3) (pc := 270) g dL_law_270 (by decide) ?_
        refine qv_iadd (pc := 271) g dL_law_271 ?_
        refine qv_sald (pc := 272) g hX hbl hbA dL_law_272 (fun v39 => ?_)
        refine qv_aIM (qv_cv (pc := 273) g (c_X9_times (gl G) X 0 qv_TT _ _ _ _ M4 hx0) (qv_RL hRm (by decide) (by decide)) (qv_cL hRm (by decide) (by decide)) mw_X9_times lk_RL_27 im_X9_times se_X9_times (by decide) rfl hx0 pd_X9_times rfl (Nat.le_of_ble_eq_true rfl) dL_law_273) (fun v40 M41 => ?_)
        refine qv_aload_n (pc := 276) g dL_law_276 rfl rfl ?_
        refine qv_aload_n (pc := 277) g dL_law_277 rfl rfl ?_
        refine qv_iload_n (pc := 278) g dL_law_278 rfl rfl ?_
        refine qv_iconst (v := 1) (pc := 279) g dL_law_279 (by decide) ?_
        refine qv_iadd (pc := 280) g dL_law_280 ?_
        refine qv_sald (pc := 281) g hX hbl hbA dL_law_281 (fun v42 => ?_)
        refine qv_aload_n (pc := 282) g dL_law_282 rfl rfl ?_
        refine qv_iload_n (pc := 283) g dL_law_283 rfl rfl ?_
        refine qv_iconst (v := 2) (pc := 284) g dL_law_284 (by decide) ?_
        refine qv_iadd (pc := 285) g dL_law_285 ?_
        refine qv_sald (pc := 286) g hX hbl hbA dL_law_286 (fun v43 => ?_)
        refine qv_aload_n (pc := 287) g dL_law_287 rfl rfl ?_
        refine qv_iload_n (pc := 288) g dL_law_288 rfl rfl ?_
        refine qv_iconst (v := 3) (pc := 289) g dL_law_289 (by decide) ?_
        refine qv_iadd (pc := 290) g dL_law_290 ?_
        refine qv_sald (pc := 291) g hX hbl hbA dL_law_291 (fun v44 => ?_)
        refine qv_aIM (qv_cv (pc := 292) g (c_X10_times (gl G) X 0 qv_TT _ _ _ _ M41 hm0) (qv_RL hRm (by decide) (by decide)) (qv_cL hRm (by decide) (by decide)) mw_X10_times lk_RL_31 im_X10_times se_X10_times (by decide) rfl hm0 pd_X10_times rfl (Nat.le_of_ble_eq_true rfl) dL_law_292) (fun v45 M46 => ?_)
        refine qv_icmp_eq (pc := 295) (tgt := 1040) g dL_law_295 (by decide) ?_ ?_
        · exact qk8 _
        · refine qv_iconst (v := 0) (pc := 298) g dL_law_298 (by decide) ?_
          exact qv_none
      refine qv_ite _ (fun e55 => ?_) (fun n56 => ?_)
      · refine qv_tabI (pc := 32) (tgt := 300) g dL_law_32 (by rw [e55]; decide) (by rw [e55]; decide) (by rw [e55]; rfl) (by decide) ?_
        refine qv_aload_n (pc := 300) g dL_law_300 rfl rfl ?_
        refine qv_aload_n (pc := 301) g dL_law_301 rfl rfl ?_
        refine qv_iload_n (pc := 302) g dL_law_302 rfl rfl ?_
        refine qv_iconst (v := 1) (pc := 303) g dL_law_303 (by decide) ?_
        refine qv_iadd (pc := 304) g dL_law_304 ?_
        refine qv_sald (pc := 305) g hX hbl hbA dL_law_305 (fun v49 => ?_)
        refine qv_aIM (qv_cv (pc := 306) g (c_X9_turn (gl G) X 0 qv_TT _ _ M4 hx0) (qv_RL hRm (by decide) (by decide)) (qv_cL hRm (by decide) (by decide)) mw_X9_turn lk_RL_32 im_X9_turn se_X9_turn (by decide) rfl hx0 pd_X9_turn rfl (Nat.le_of_ble_eq_true rfl) dL_law_306) (fun v50 M51 => ?_)
        refine qv_aload_n (pc := 309) g dL_law_309 rfl rfl ?_
        refine qv_aload_n (pc := 310) g dL_law_310 rfl rfl ?_
        refine qv_iload_n (pc := 311) g dL_law_311 rfl rfl ?_
        refine qv_iconst (v := 1) (pc := 312) g dL_law_312 (by decide) ?_
        refine qv_iadd (pc := 313) g dL_law_313 ?_
        refine qv_sald (pc := 314) g hX hbl hbA dL_law_314 (fun v52 => ?_)
        refine qv_aIM (qv_cv (pc := 315) g (c_X10_turn (gl G) X 0 qv_TT _ _ M51 hm0) (qv_RL hRm (by decide) (by decide)) (qv_cL hRm (by decide) (by decide)) mw_X10_turn lk_RL_35 im_X10_turn se_X10_turn (by decide) rfl hm0 pd_X10_turn rfl (Nat.le_of_ble_eq_true rfl) dL_law_315) (fun v53 M54 => ?_)
        refine qv_icmp_eq (pc := 318) (tgt := 1040) g dL_law_318 (by decide) ?_ ?_
        · exact qk8 _
        · refine qv_iconst (v := 0) (pc := 321) g dL_law_321 (by decide) ?_
          exact qv_none
      refine qv_ite _ (fun e67 => ?_) (fun n68 => ?_)
      · refine qv_tabI (pc := 32) (tgt := 323) g dL_law_32 (by rw [e67]; decide) (by rw [e67]; decide) (by rw [e67]; rfl) (by decide) ?_
        refine qv_aload_n (pc := 323) g dL_law_323 rfl rfl ?_
        refine qv_aload_n (pc := 324) g dL_law_324 rfl rfl ?_
        refine qv_iload_n (pc := 325) g dL_law_325 rfl rfl ?_
        refine qv_iconst (v := 1) (pc := 326) g dL_law_326 (by decide) ?_
        refine qv_iadd (pc := 327) g dL_law_327 ?_
        refine qv_sald (pc := 328) g hX hbl hbA dL_law_328 (fun v57 => ?_)
        refine qv_aload_n (pc := 329) g dL_law_329 rfl rfl ?_
        refine qv_iload_n (pc := 330) g dL_law_330 rfl rfl ?_
        refine qv_iconst (v := 2) (pc := 331) g dL_law_331 (by decide) ?_
        refine qv_iadd (pc := 332) g dL_law_332 ?_
        refine qv_sald (pc := 333) g hX hbl hbA dL_law_333 (fun v58 => ?_)
        refine qv_aload_n (pc := 334) g dL_law_334 rfl rfl ?_
        refine qv_iload_n (pc := 335) g dL_law_335 rfl rfl ?_
        refine qv_iconst (v := 3) (pc := 336) g dL_law_336 (by decide) ?_
        refine qv_iadd (pc := 337) g dL_law_337 ?_
        refine qv_sald (pc := 338) g hX hbl hbA dL_law_338 (fun v59 => ?_)
        refine qv_aload_n (pc := 339) g dL_law_339 rfl rfl ?_
        refine qv_iload_n (pc := 340) g dL_law_340 rfl rfl ?_
        refine qv_iconst (v := 4) (pc := 341) g dL_law_341 (by decide) ?_
        refine qv_iadd (pc := 342) g dL_law_342 ?_
        refine qv_sald (pc := 343) g hX hbl hbA dL_law_343 (fun v60 => ?_)
        refine qv_aL rfl (qv_cv (pc := 344) g (c_X9_part (gl G) X 0 qv_TT _ _ _ _ _ M4 hx0) (qv_RL hRm (by decide) (by decide)) (qv_cL hRm (by decide) (by decide)) mw_X9_part lk_RL_36 im_X9_part se_X9_part (by decide) rfl hx0 pd_X9_part rfl (Nat.le_of_ble_eq_true rfl) dL_law_344) (fun v61 => ?_)
        refine qv_aload_n (pc := 347) g dL_law_347 rfl rfl ?_
        refine qv_aload_n (pc := 348) g dL_law_348 rfl rfl ?_
        refine qv_iload_n (pc := 349) g dL_law_349 rfl rfl ?_
        refine qv_iconst (v := 1) (pc := 350) g dL_law_350 (by decide) ?_
        refine qv_iadd (pc := 351) g dL_law_351 ?_
        refine qv_sald (pc := 352) g hX hbl hbA dL_law_352 (fun v62 => ?_)
        refine qv_aload_n (pc := 353) g dL_law_353 rfl rfl ?_
        refine qv_iload_n (pc := 354) g dL_law_354 rfl rfl ?_
        refine qv_iconst (v := 2) (pc := 355) g dL_law_355 (by decide) ?_
        refine qv_iadd (pc := 356) g dL_law_356 ?_
        refine qv_sald (pc := 357) g hX hbl hbA dL_law_357 (fun v63 => ?_)
        refine qv_aload_n (pc := 358) g dL_law_358 rfl rfl ?_
        refine qv_iload_n (pc := 359) g dL_law_359 rfl rfl ?_
        refine qv_iconst (v := 3) (pc := 360) g dL_law_360 (by decide) ?_
        refine qv_iadd (pc := 361) g dL_law_361 ?_
        refine qv_sald (pc := 362) g hX hbl hbA dL_law_362 (fun v64 => ?_)
        refine qv_aload_n (pc := 363) g dL_law_363 rfl rfl ?_
        refine qv_iload_n (pc := 364) g dL_law_364 rfl rfl ?_
        refine qv_iconst (v := 4) (pc := 365) g dL_law_365 (by decide) ?_
        refine qv_iadd (pc := 366) g dL_law_366 ?_
        refine qv_sald (pc := 367) g hX hbl hbA dL_law_367 (fun v65 => ?_)
        refine qv_aL rfl (qv_cv (pc := 368) g (c_X10_part (gl G) X 0 qv_TT _ _ _ _ _ M4 hm0) (qv_RL hRm (by decide) (by decide)) (qv_cL hRm (by decide) (by decide)) mw_X10_part lk_RL_40 im_X10_part se_X10_part (by decide) rfl hm0 pd_X10_part rfl (Nat.le_of_ble_eq_true rfl) dL_law_368) (fun v66 => ?_)
        refine qv_lcmp (pc := 371) g dL_law_371 ?_
        refine qv_if_eq (pc := 372) (tgt := 1040) g dL_law_372 (by decide) ?_ ?_
        · exact qk8 _
        · refine qv_iconst (v := 0) (pc := 375) g dL_law_375 (by decide) ?_
          exact qv_none
      refine qv_ite _ (fun e73 => ?_) (fun n74 => ?_)
      · refine qv_tabI (pc := 32) (tgt := 377) g dL_law_32 (by rw [e73]; decide) (by rw [e73]; decide) (by rw [e73]; rfl) (by decide) ?_
        refine qv_aload_n (pc := 377) g dL_law_377 rfl rfl ?_
        refine qv_aload_n (pc := 378) g dL_law_378 rfl rfl ?_
        refine qv_iload_n (pc := 379) g dL_law_379 rfl rfl ?_
        refine qv_iconst (v := 1) (pc := 380) g dL_law_380 (by decide) ?_
        refine qv_iadd (pc := 381) g dL_law_381 ?_
        refine qv_sald (pc := 382) g hX hbl hbA dL_law_382 (fun v69 => ?_)
        refine qv_aI rfl (qv_cv (pc := 383) g (c_X9_e (gl G) X 0 qv_TT _ _ M4 hx0) (qv_RL hRm (by decide) (by decide)) (qv_cL hRm (by decide) (by decide)) mw_X9_e lk_RL_41 im_X9_e se_X9_e (by decide) rfl hx0 pd_X9_e rfl (Nat.le_of_ble_eq_true rfl) dL_law_383) (fun v70 => ?_)
        refine qv_aload_n (pc := 386) g dL_law_386 rfl rfl ?_
        refine qv_aload_n (pc := 387) g dL_law_387 rfl rfl ?_
        refine qv_iload_n (pc := 388) g dL_law_388 rfl rfl ?_
        refine qv_iconst (v := 1) (pc := 389) g dL_law_389 (by decide) ?_
        refine qv_iadd (pc := 390) g dL_law_390 ?_
        refine qv_sald (pc := 391) g hX hbl hbA dL_law_391 (fun v71 => ?_)
        refine qv_aI rfl (qv_cv (pc := 392) g (c_X10_e (gl G) X 0 qv_TT _ _ M4 hm0) (qv_RL hRm (by decide) (by decide)) (qv_cL hRm (by decide) (by decide)) mw_X10_e lk_RL_44 im_X10_e se_X10_e (by decide) rfl hm0 pd_X10_e rfl (Nat.le_of_ble_eq_true rfl) dL_law_392) (fun v72 => ?_)
        refine qv_icmp_eq (pc := 395) (tgt := 1040) g dL_law_395 (by decide) ?_ ?_
        · exact qk8 _
        · refine qv_iconst (v := 0) (pc := 398) g dL_law_398 (by decide) ?_
          exact qv_none
      refine qv_ite _ (fun e83 => ?_) (fun n84 => ?_)
      · refine qv_tabI (pc := 32) (tgt := 400) g dL_law_32 (by rw [e83]; decide) (by rw [e83]; decide) (by rw [e83]; rfl) (by decide) ?_
        refine qv_aload_n (pc := 400) g dL_law_400 rfl rfl ?_
        refine qv_aload_n (pc := 401) g dL_law_401 rfl rfl ?_
        refine qv_iload_n (pc := 402) g dL_law_402 rfl rfl ?_
        refine qv_iconst (v := 1) (pc := 403) g dL_law_403 (by decide) ?_
        refine qv_iadd (pc := 404) g dL_law_404 ?_
        refine qv_sald (pc := 405) g hX hbl hbA dL_law_405 (fun v75 => ?_)
        refine qv_aload_n (pc := 406) g dL_law_406 rfl rfl ?_
        refine qv_iload_n (pc := 407) g dL_law_407 rfl rfl ?_
        refine qv_iconst (v := 2) (pc := 408) g dL_law_408 (by decide) ?_
        refine qv_iadd (pc := 409) g dL_law_409 ?_
        refine qv_sald (pc := 410) g hX hbl hbA dL_law_410 (fun v76 => ?_)
        refine qv_aIM (qv_cv (pc := 411) g (c_X9_phase (gl G) X 0 qv_TT _ _ _ M4 hx0) (qv_RL hRm (by decide) (by decide)) (qv_cL hRm (by decide) (by decide)) mw_X9_phase lk_RL_45 im_X9_phase se_X9_phase (by decide) rfl hx0 pd_X9_phase rfl (Nat.le_of_ble_eq_true rfl) dL_law_411) (fun v77 M78 => ?_)
        refine qv_aload_n (pc := 414) g dL_law_414 rfl rfl ?_
        refine qv_aload_n (pc := 415) g dL_law_415 rfl rfl ?_
        refine qv_iload_n (pc := 416) g dL_law_416 rfl rfl ?_
        refine qv_iconst (v := 1) (pc := 417) g dL_law_417 (by decide) ?_
        refine qv_iadd (pc := 418) g dL_law_418 ?_
        refine qv_sald (pc := 419) g hX hbl hbA dL_law_419 (fun v79 => ?_)
        refine qv_aload_n (pc := 420) g dL_law_420 rfl rfl ?_
        refine qv_iload_n (pc := 421) g dL_law_421 rfl rfl ?_
        refine qv_iconst (v := 2) (pc := 422) g dL_law_422 (by decide) ?_
        refine qv_iadd (pc := 423) g dL_law_423 ?_
        refine qv_sald (pc := 424) g hX hbl hbA dL_law_424 (fun v80 => ?_)
        refine qv_aIM (qv_cv (pc := 425) g (c_X10_phase (gl G) X 0 qv_TT _ _ _ M78 hm0) (qv_RL hRm (by decide) (by decide)) (qv_cL hRm (by decide) (by decide)) mw_X10_phase lk_RL_48 im_X10_phase se_X10_phase (by decide) rfl hm0 pd_X10_phase rfl (Nat.le_of_ble_eq_true rfl) dL_law_425) (fun v81 M82 => ?_)
        refine qv_icmp_eq (pc := 428) (tgt := 1040) g dL_law_428 (by decide) ?_ ?_
        · exact qk8 _
        · refine qv_iconst (v := 0) (pc := 431) g dL_law_431 (by decide) ?_
          exact qv_none
      refine qv_ite _ (fun e97 => ?_) (fun n98 => ?_)
      · refine qv_tabI (pc := 32) (tgt := 433) g dL_law_32 (by rw [e97]; decide) (by rw [e97]; decide) (by rw [e97]; rfl) (by decide) ?_
        refine qv_aload_n (pc := 433) g dL_law_433 rfl rfl ?_
        refine qv_aload_n (pc := 434) g dL_law_434 rfl rfl ?_
        refine qv_iload_n (pc := 435) g dL_law_435 rfl rfl ?_
        refine qv_iconst (v := 1) (pc := 436) g dL_law_436 (by decide) ?_
        refine qv_iadd (pc := 437) g dL_law_437 ?_
        refine qv_sald (pc := 438) g hX hbl hbA dL_law_438 (fun v85 => ?_)
        refine qv_aload_n (pc := 439) g dL_law_439 rfl rfl ?_
        refine qv_iload_n (pc := 440) g dL_law_440 rfl rfl ?_
        refine qv_iconst (v := 2) (pc := 441) g dL_law_441 (by decide) ?_
        refine qv_iadd (pc := 442) g dL_law_442 ?_
        refine qv_sald (pc := 443) g hX hbl hbA dL_law_443 (fun v86 => ?_)
        refine qv_aload_n (pc := 444) g dL_law_444 rfl rfl ?_
        refine qv_iload_n (pc := 445) g dL_law_445 rfl rfl ?_
        refine qv_iconst (v := 3) (pc := 446) g dL_law_446 (by decide) ?_
        refine qv_iadd (pc := 447) g dL_law_447 ?_
        refine qv_sald (pc := 448) g hX hbl hbA dL_law_448 (fun v87 => ?_)
        refine qv_aload_n (pc := 449) g dL_law_449 rfl rfl ?_
        refine qv_iload_n (pc := 450) g dL_law_450 rfl rfl ?_
        refine qv_iconst (v := 4) (pc := 451) g dL_law_451 (by decide) ?_
        refine qv_iadd (pc := 452) g dL_law_452 ?_
        refine qv_sald (pc := 453) g hX hbl hbA dL_law_453 (fun v88 => ?_)
        refine qv_aLM (qv_cv (pc := 454) g (c_X9_channel (gl G) X 0 qv_TT _ _ _ _ _ M4 hx0) (qv_RL hRm (by decide) (by decide)) (qv_cL hRm (by decide) (by decide)) mw_X9_channel lk_RL_49 im_X9_channel se_X9_channel (by decide) rfl hx0 pd_X9_channel rfl (Nat.le_of_ble_eq_true rfl) dL_law_454) (fun v89 M90 => ?_)
        refine qv_aload_n (pc := 457) g dL_law_457 rfl rfl ?_
        refine qv_aload_n (pc := 458) g dL_law_458 rfl rfl ?_
        refine qv_iload_n (pc := 459) g dL_law_459 rfl rfl ?_
        refine qv_iconst (v := 1) (pc := 460) g dL_law_460 (by decide) ?_
        refine qv_iadd (pc := 461) g dL_law_461 ?_
        refine qv_sald (pc := 462) g hX hbl hbA dL_law_462 (fun v91 => ?_)
        refine qv_aload_n (pc := 463) g dL_law_463 rfl rfl ?_
        refine qv_iload_n (pc := 464) g dL_law_464 rfl rfl ?_
        refine qv_iconst (v := 2) (pc := 465) g dL_law_465 (by decide) ?_
        refine qv_iadd (pc := 466) g dL_law_466 ?_
        refine qv_sald (pc := 467) g hX hbl hbA dL_law_467 (fun v92 => ?_)
        refine qv_aload_n (pc := 468) g dL_law_468 rfl rfl ?_
        refine qv_iload_n (pc := 469) g dL_law_469 rfl rfl ?_
        refine qv_iconst (v := 3) (pc := 470) g dL_law_470 (by decide) ?_
        refine qv_iadd (pc := 471) g dL_law_471 ?_
        refine qv_sald (pc := 472) g hX hbl hbA dL_law_472 (fun v93 => ?_)
        refine qv_aload_n (pc := 473) g dL_law_473 rfl rfl ?_
        refine qv_iload_n (pc := 474) g dL_law_474 rfl rfl ?_
        refine qv_iconst (v := 4) (pc := 475) g dL_law_475 (by decide) ?_
        refine qv_iadd (pc := 476) g dL_law_476 ?_
        refine qv_sald (pc := 477) g hX hbl hbA dL_law_477 (fun v94 => ?_)
        refine qv_aLM (qv_cv (pc := 478) g (c_X10_channel (gl G) X 0 qv_TT _ _ _ _ _ M90 hm0) (qv_RL hRm (by decide) (by decide)) (qv_cL hRm (by decide) (by decide)) mw_X10_channel lk_RL_52 im_X10_channel se_X10_channel (by decide) rfl hm0 pd_X10_channel rfl (Nat.le_of_ble_eq_true rfl) dL_law_478) (fun v95 M96 => ?_)
        refine qv_lcmp (pc := 481) g dL_law_481 ?_
        refine qv_if_eq (pc := 482) (tgt := 1040) g dL_law_482 (by decide) ?_ ?_
        · exact qk8 _
        · refine qv_iconst (v := 0) (pc := 485) g dL_law_485 (by decide) ?_
          exact qv_none
      refine qv_ite _ (fun e105 => ?_) (fun n106 => ?_)
      · refine qv_tabI (pc := 32) (tgt := 487) g dL_law_32 (by rw [e105]; decide) (by rw [e105]; decide) (by rw [e105]; rfl) (by decide) ?_
        refine qv_aload_n (pc := 487) g dL_law_487 rfl rfl ?_
        refine qv_aload_n (pc := 488) g dL_law_488 rfl rfl ?_
        refine qv_iload_n (pc := 489) g dL_law_489 rfl rfl ?_
        refine qv_iconst (v := 1) (pc := 490) g dL_law_490 (by decide) ?_
        refine qv_iadd (pc := 491) g dL_law_491 ?_
        refine qv_sald (pc := 492) g hX hbl hbA dL_law_492 (fun v99 => ?_)
        refine qv_aIM (qv_cv (pc := 493) g (c_X9_count (gl G) X 0 qv_TT _ _ M4 hx0) (qv_RL hRm (by decide) (by decide)) (qv_cL hRm (by decide) (by decide)) mw_X9_count lk_RL_53 im_X9_count se_X9_count (by decide) rfl hx0 pd_X9_count rfl (Nat.le_of_ble_eq_true rfl) dL_law_493) (fun v100 M101 => ?_)
        refine qv_aload_n (pc := 496) g dL_law_496 rfl rfl ?_
        refine qv_aload_n (pc := 497) g dL_law_497 rfl rfl ?_
        refine qv_iload_n (pc := 498) g dL_law_498 rfl rfl ?_
        refine qv_iconst (v := 1) (pc := 499) g dL_law_499 (by decide) ?_
        refine qv_iadd (pc := 500) g dL_law_500 ?_
        refine qv_sald (pc := 501) g hX hbl hbA dL_law_501 (fun v102 => ?_)
        refine qv_aIM (qv_cv (pc := 502) g (c_X10_count (gl G) X 0 qv_TT _ _ M101 hm0) (qv_RL hRm (by decide) (by decide)) (qv_cL hRm (by decide) (by decide)) mw_X10_count lk_RL_56 im_X10_count se_X10_count (by decide) rfl hm0 pd_X10_count rfl (Nat.le_of_ble_eq_true rfl) dL_law_502) (fun v103 M104 => ?_)
        refine qv_icmp_eq (pc := 505) (tgt := 1040) g dL_law_505 (by decide) ?_ ?_
        · exact qk8 _
        · refine qv_iconst (v := 0) (pc := 508) g dL_law_508 (by decide) ?_
          exact qv_none
      refine qv_ite _ (fun e112 => ?_) (fun n113 => ?_)
      · refine qv_tabI (pc := 32) (tgt := 510) g dL_law_32 (by rw [e112]; decide) (by rw [e112]; decide) (by rw [e112]; rfl) (by decide) ?_
        refine qv_aload_n (pc := 510) g dL_law_510 rfl rfl ?_
        refine qv_aload_n (pc := 511) g dL_law_511 rfl rfl ?_
        refine qv_iload_n (pc := 512) g dL_law_512 rfl rfl ?_
        refine qv_iconst (v := 1) (pc := 513) g dL_law_513 (by decide) ?_
        refine qv_iadd (pc := 514) g dL_law_514 ?_
        refine qv_sald (pc := 515) g hX hbl hbA dL_law_515 (fun v107 => ?_)
        refine qv_aIM (qv_cv (pc := 516) g (c_X9_clifford (gl G) X 0 qv_TT _ _ M4 hx0) (qv_RL hRm (by decide) (by decide)) (qv_cL hRm (by decide) (by decide)) mw_X9_clifford lk_RL_57 im_X9_clifford se_X9_clifford (by decide) rfl hx0 pd_X9_clifford rfl (Nat.le_of_ble_eq_true rfl) dL_law_516) (fun v108 M109 => ?_)
        refine qv_aload_n (pc := 519) g dL_law_519 rfl rfl ?_
        refine qv_aload_n (pc := 520) g dL_law_520 rfl rfl ?_
        refine qv_iload_n (pc := 521) g dL_law_521 rfl rfl ?_
        refine qv_iconst (v := 1) (pc := 522) g dL_law_522 (by decide) ?_
        refine qv_iadd (pc := 523) g dL_law_523 ?_
        refine qv_sald (pc := 524) g hX hbl hbA dL_law_524 (fun v110 => ?_)
        refine qv_aI rfl (qv_cv (pc := 525) g (c_X10_clifford (gl G) X 0 qv_TT _ _ M109 hm0) (qv_RL hRm (by decide) (by decide)) (qv_cL hRm (by decide) (by decide)) mw_X10_clifford lk_RL_60 im_X10_clifford se_X10_clifford (by decide) rfl hm0 pd_X10_clifford rfl (Nat.le_of_ble_eq_true rfl) dL_law_525) (fun v111 => ?_)
        refine qv_icmp_eq (pc := 528) (tgt := 1040) g dL_law_528 (by decide) ?_ ?_
        · exact qk8 _
        · refine qv_iconst (v := 0) (pc := 531) g dL_law_531 (by decide) ?_
          exact qv_none
      refine qv_ite _ (fun e122 => ?_) (fun n123 => ?_)
      · refine qv_tabI (pc := 32) (tgt := 533) g dL_law_32 (by rw [e122]; decide) (by rw [e122]; decide) (by rw [e122]; rfl) (by decide) ?_
        refine qv_aload_n (pc := 533) g dL_law_533 rfl rfl ?_
        refine qv_aload_n (pc := 534) g dL_law_534 rfl rfl ?_
        refine qv_iload_n (pc := 535) g dL_law_535 rfl rfl ?_
        refine qv_iconst (v := 1) (pc := 536) g dL_law_536 (by decide) ?_
        refine qv_iadd (pc := 537) g dL_law_537 ?_
        refine qv_sald (pc := 538) g hX hbl hbA dL_law_538 (fun v114 => ?_)
        refine qv_aload_n (pc := 539) g dL_law_539 rfl rfl ?_
        refine qv_iload_n (pc := 540) g dL_law_540 rfl rfl ?_
        refine qv_iconst (v := 2) (pc := 541) g dL_law_541 (by decide) ?_
        refine qv_iadd (pc := 542) g dL_law_542 ?_
        refine qv_sald (pc := 543) g hX hbl hbA dL_law_543 (fun v115 => ?_)
        refine qv_aIM (qv_cv (pc := 544) g (c_X9_take (gl G) X 0 qv_TT _ _ _ M4 hx0) (qv_RL hRm (by decide) (by decide)) (qv_cL hRm (by decide) (by decide)) mw_X9_take lk_RL_61 im_X9_take se_X9_take (by decide) rfl hx0 pd_X9_take rfl (Nat.le_of_ble_eq_true rfl) dL_law_544) (fun v116 M117 => ?_)
        refine qv_aload_n (pc := 547) g dL_law_547 rfl rfl ?_
        refine qv_aload_n (pc := 548) g dL_law_548 rfl rfl ?_
        refine qv_iload_n (pc := 549) g dL_law_549 rfl rfl ?_
        refine qv_iconst (v := 1) (pc := 550) g dL_law_550 (by decide) ?_
        refine qv_iadd (pc := 551) g dL_law_551 ?_
        refine qv_sald (pc := 552) g hX hbl hbA dL_law_552 (fun v118 => ?_)
        refine qv_aload_n (pc := 553) g dL_law_553 rfl rfl ?_
        refine qv_iload_n (pc := 554) g dL_law_554 rfl rfl ?_
        refine qv_iconst (v := 2) (pc := 555) g dL_law_555 (by decide) ?_
        refine qv_iadd (pc := 556) g dL_law_556 ?_
        refine qv_sald (pc := 557) g hX hbl hbA dL_law_557 (fun v119 => ?_)
        refine qv_aIM (qv_cv (pc := 558) g (c_X10_take (gl G) X 0 qv_TT _ _ _ M117 hm0) (qv_RL hRm (by decide) (by decide)) (qv_cL hRm (by decide) (by decide)) mw_X10_take lk_RL_64 im_X10_take se_X10_take (by decide) rfl hm0 pd_X10_take rfl (Nat.le_of_ble_eq_true rfl) dL_law_558) (fun v120 M121 => ?_)
        refine qv_icmp_eq (pc := 561) (tgt := 1040) g dL_law_561 (by decide) ?_ ?_
        · exact qk8 _
        · refine qv_iconst (v := 0) (pc := 564) g dL_law_564 (by decide) ?_
          exact qv_none
      refine qv_ite _ (fun e131 => ?_) (fun n132 => ?_)
      · refine qv_tabI (pc := 32) (tgt := 566) g dL_law_32 (by rw [e131]; decide) (by rw [e131]; decide) (by rw [e131]; rfl) (by decide) ?_
        refine qv_aload_n (pc := 566) g dL_law_566 rfl rfl ?_
        refine qv_aload_n (pc := 567) g dL_law_567 rfl rfl ?_
        refine qv_iload_n (pc := 568) g dL_law_568 rfl rfl ?_
        refine qv_iconst (v := 1) (pc := 569) g dL_law_569 (by decide) ?_
        refine qv_iadd (pc := 570) g dL_law_570 ?_
        refine qv_sald (pc := 571) g hX hbl hbA dL_law_571 (fun v124 => ?_)
        refine qv_aload_n (pc := 572) g dL_law_572 rfl rfl ?_
        refine qv_iload_n (pc := 573) g dL_law_573 rfl rfl ?_
        refine qv_iconst (v := 2) (pc := 574) g dL_law_574 (by decide) ?_
        refine qv_iadd (pc := 575) g dL_law_575 ?_
        refine qv_sald (pc := 576) g hX hbl hbA dL_law_576 (fun v125 => ?_)
        refine qv_aIM (qv_cv (pc := 577) g (c_X9_leads (gl G) X 0 qv_TT _ _ _ M4 hx0) (qv_RL hRm (by decide) (by decide)) (qv_cL hRm (by decide) (by decide)) mw_X9_leads lk_RL_65 im_X9_leads se_X9_leads (by decide) rfl hx0 pd_X9_leads rfl (Nat.le_of_ble_eq_true rfl) dL_law_577) (fun v126 M127 => ?_)
        refine qv_aload_n (pc := 580) g dL_law_580 rfl rfl ?_
        refine qv_aload_n (pc := 581) g dL_law_581 rfl rfl ?_
        refine qv_iload_n (pc := 582) g dL_law_582 rfl rfl ?_
        refine qv_iconst (v := 1) (pc := 583) g dL_law_583 (by decide) ?_
        refine qv_iadd (pc := 584) g dL_law_584 ?_
        refine qv_sald (pc := 585) g hX hbl hbA dL_law_585 (fun v128 => ?_)
        refine qv_aload_n (pc := 586) g dL_law_586 rfl rfl ?_
        refine qv_iload_n (pc := 587) g dL_law_587 rfl rfl ?_
        refine qv_iconst (v := 2) (pc := 588) g dL_law_588 (by decide) ?_
        refine qv_iadd (pc := 589) g dL_law_589 ?_
        refine qv_sald (pc := 590) g hX hbl hbA dL_law_590 (fun v129 => ?_)
        refine qv_aI rfl (qv_cv (pc := 591) g (c_X10_leads (gl G) X 0 qv_TT _ _ _ M127 hm0) (qv_RL hRm (by decide) (by decide)) (qv_cL hRm (by decide) (by decide)) mw_X10_leads lk_RL_68 im_X10_leads se_X10_leads (by decide) rfl hm0 pd_X10_leads rfl (Nat.le_of_ble_eq_true rfl) dL_law_591) (fun v130 => ?_)
        refine qv_icmp_eq (pc := 594) (tgt := 1040) g dL_law_594 (by decide) ?_ ?_
        · exact qk8 _
        · refine qv_iconst (v := 0) (pc := 597) g dL_law_597 (by decide) ?_
          exact qv_none
      refine qv_ite _ (fun e141 => ?_) (fun n142 => ?_)
      · refine qv_tabI (pc := 32) (tgt := 599) g dL_law_32 (by rw [e141]; decide) (by rw [e141]; decide) (by rw [e141]; rfl) (by decide) ?_
        refine qv_aload_n (pc := 599) g dL_law_599 rfl rfl ?_
        refine qv_aload_n (pc := 600) g dL_law_600 rfl rfl ?_
        refine qv_iload_n (pc := 601) g dL_law_601 rfl rfl ?_
        refine qv_iconst (v := 1) (pc := 602) g dL_law_602 (by decide) ?_
        refine qv_iadd (pc := 603) g dL_law_603 ?_
        refine qv_sald (pc := 604) g hX hbl hbA dL_law_604 (fun v133 => ?_)
        refine qv_aload_n (pc := 605) g dL_law_605 rfl rfl ?_
        refine qv_iload_n (pc := 606) g dL_law_606 rfl rfl ?_
        refine qv_iconst (v := 2) (pc := 607) g dL_law_607 (by decide) ?_
        refine qv_iadd (pc := 608) g dL_law_608 ?_
        refine qv_sald (pc := 609) g hX hbl hbA dL_law_609 (fun v134 => ?_)
        refine qv_aIM (qv_cv (pc := 610) g (c_X9_price (gl G) X 0 qv_TT _ _ _ M4 hx0) (qv_RL hRm (by decide) (by decide)) (qv_cL hRm (by decide) (by decide)) mw_X9_price lk_RL_69 im_X9_price se_X9_price (by decide) rfl hx0 pd_X9_price rfl (Nat.le_of_ble_eq_true rfl) dL_law_610) (fun v135 M136 => ?_)
        refine qv_aload_n (pc := 613) g dL_law_613 rfl rfl ?_
        refine qv_aload_n (pc := 614) g dL_law_614 rfl rfl ?_
        refine qv_iload_n (pc := 615) g dL_law_615 rfl rfl ?_
        refine qv_iconst (v := 1) (pc := 616) g dL_law_616 (by decide) ?_
        refine qv_iadd (pc := 617) g dL_law_617 ?_
        refine qv_sald (pc := 618) g hX hbl hbA dL_law_618 (fun v137 => ?_)
        refine qv_aload_n (pc := 619) g dL_law_619 rfl rfl ?_
        refine qv_iload_n (pc := 620) g dL_law_620 rfl rfl ?_
        refine qv_iconst (v := 2) (pc := 621) g dL_law_621 (by decide) ?_
        refine qv_iadd (pc := 622) g dL_law_622 ?_
        refine qv_sald (pc := 623) g hX hbl hbA dL_law_623 (fun v138 => ?_)
        refine qv_aIM (qv_cv (pc := 624) g (c_X10_price (gl G) X 0 qv_TT _ _ _ M136 hm0) (qv_RL hRm (by decide) (by decide)) (qv_cL hRm (by decide) (by decide)) mw_X10_price lk_RL_72 im_X10_price se_X10_price (by decide) rfl hm0 pd_X10_price rfl (Nat.le_of_ble_eq_true rfl) dL_law_624) (fun v139 M140 => ?_)
        refine qv_icmp_eq (pc := 627) (tgt := 1040) g dL_law_627 (by decide) ?_ ?_
        · exact qk8 _
        · refine qv_iconst (v := 0) (pc := 630) g dL_law_630 (by decide) ?_
          exact qv_none
      refine qv_ite _ (fun e151 => ?_) (fun n152 => ?_)
      · refine qv_tabI (pc := 32) (tgt := 632) g dL_law_32 (by rw [e151]; decide) (by rw [e151]; decide) (by rw [e151]; rfl) (by decide) ?_
        refine qv_aload_n (pc := 632) g dL_law_632 rfl rfl ?_
        refine qv_aload_n (pc := 633) g dL_law_633 rfl rfl ?_
        refine qv_iload_n (pc := 634) g dL_law_634 rfl rfl ?_
        refine qv_iconst (v := 1) (pc := 635) g dL_law_635 (by decide) ?_
        refine qv_iadd (pc := 636) g dL_law_636 ?_
        refine qv_sald (pc := 637) g hX hbl hbA dL_law_637 (fun v143 => ?_)
        refine qv_aload_n (pc := 638) g dL_law_638 rfl rfl ?_
        refine qv_iload_n (pc := 639) g dL_law_639 rfl rfl ?_
        refine qv_iconst (v := 2) (pc := 640) g dL_law_640 (by decide) ?_
        refine qv_iadd (pc := 641) g dL_law_641 ?_
        refine qv_sald (pc := 642) g hX hbl hbA dL_law_642 (fun v144 => ?_)
        refine qv_aIM (qv_cv (pc := 643) g (c_X9_cheapest (gl G) X 0 qv_TT _ _ _ M4 hx0) (qv_RL hRm (by decide) (by decide)) (qv_cL hRm (by decide) (by decide)) mw_X9_cheapest lk_RL_73 im_X9_cheapest se_X9_cheapest (by decide) rfl hx0 pd_X9_cheapest rfl (Nat.le_of_ble_eq_true rfl) dL_law_643) (fun v145 M146 => ?_)
        refine qv_aload_n (pc := 646) g dL_law_646 rfl rfl ?_
        refine qv_aload_n (pc := 647) g dL_law_647 rfl rfl ?_
        refine qv_iload_n (pc := 648) g dL_law_648 rfl rfl ?_
        refine qv_iconst (v := 1) (pc := 649) g dL_law_649 (by decide) ?_
        refine qv_iadd (pc := 650) g dL_law_650 ?_
        refine qv_sald (pc := 651) g hX hbl hbA dL_law_651 (fun v147 => ?_)
        refine qv_aload_n (pc := 652) g dL_law_652 rfl rfl ?_
        refine qv_iload_n (pc := 653) g dL_law_653 rfl rfl ?_
        refine qv_iconst (v := 2) (pc := 654) g dL_law_654 (by decide) ?_
        refine qv_iadd (pc := 655) g dL_law_655 ?_
        refine qv_sald (pc := 656) g hX hbl hbA dL_law_656 (fun v148 => ?_)
        refine qv_aIM (qv_cv (pc := 657) g (c_X10_cheapest (gl G) X 0 qv_TT _ _ _ M146 hm0) (qv_RL hRm (by decide) (by decide)) (qv_cL hRm (by decide) (by decide)) mw_X10_cheapest lk_RL_76 im_X10_cheapest se_X10_cheapest (by decide) rfl hm0 pd_X10_cheapest rfl (Nat.le_of_ble_eq_true rfl) dL_law_657) (fun v149 M150 => ?_)
        refine qv_icmp_eq (pc := 660) (tgt := 1040) g dL_law_660 (by decide) ?_ ?_
        · exact qk8 _
        · refine qv_iconst (v := 0) (pc := 663) g dL_law_663 (by decide) ?_
          exact qv_none
      refine qv_ite _ (fun e161 => ?_) (fun n162 => ?_)
      · refine qv_tabI (pc := 32) (tgt := 665) g dL_law_32 (by rw [e161]; decide) (by rw [e161]; decide) (by rw [e161]; rfl) (by decide) ?_
        refine qv_aload_n (pc := 665) g dL_law_665 rfl rfl ?_
        refine qv_aload_n (pc := 666) g dL_law_666 rfl rfl ?_
        refine qv_iload_n (pc := 667) g dL_law_667 rfl rfl ?_
        refine qv_iconst (v := 1) (pc := 668) g dL_law_668 (by decide) ?_
        refine qv_iadd (pc := 669) g dL_law_669 ?_
        refine qv_sald (pc := 670) g hX hbl hbA dL_law_670 (fun v153 => ?_)
        refine qv_aload_n (pc := 671) g dL_law_671 rfl rfl ?_
        refine qv_iload_n (pc := 672) g dL_law_672 rfl rfl ?_
        refine qv_iconst (v := 2) (pc := 673) g dL_law_673 (by decide) ?_
        refine qv_iadd (pc := 674) g dL_law_674 ?_
        refine qv_sald (pc := 675) g hX hbl hbA dL_law_675 (fun v154 => ?_)
        refine qv_aIM (qv_cv (pc := 676) g (c_X9_push (gl G) X 0 qv_TT _ _ _ M4 hx0) (qv_RL hRm (by decide) (by decide)) (qv_cL hRm (by decide) (by decide)) mw_X9_push lk_RL_77 im_X9_push se_X9_push (by decide) rfl hx0 pd_X9_push rfl (Nat.le_of_ble_eq_true rfl) dL_law_676) (fun v155 M156 => ?_)
        refine qv_aload_n (pc := 679) g dL_law_679 rfl rfl ?_
        refine qv_aload_n (pc := 680) g dL_law_680 rfl rfl ?_
        refine qv_iload_n (pc := 681) g dL_law_681 rfl rfl ?_
        refine qv_iconst (v := 1) (pc := 682) g dL_law_682 (by decide) ?_
        refine qv_iadd (pc := 683) g dL_law_683 ?_
        refine qv_sald (pc := 684) g hX hbl hbA dL_law_684 (fun v157 => ?_)
        refine qv_aload_n (pc := 685) g dL_law_685 rfl rfl ?_
        refine qv_iload_n (pc := 686) g dL_law_686 rfl rfl ?_
        refine qv_iconst (v := 2) (pc := 687) g dL_law_687 (by decide) ?_
        refine qv_iadd (pc := 688) g dL_law_688 ?_
        refine qv_sald (pc := 689) g hX hbl hbA dL_law_689 (fun v158 => ?_)
        refine qv_aIM (qv_cv (pc := 690) g (c_X10_push (gl G) X 0 qv_TT _ _ _ M156 hm0) (qv_RL hRm (by decide) (by decide)) (qv_cL hRm (by decide) (by decide)) mw_X10_push lk_RL_80 im_X10_push se_X10_push (by decide) rfl hm0 pd_X10_push rfl (Nat.le_of_ble_eq_true rfl) dL_law_690) (fun v159 M160 => ?_)
        refine qv_icmp_eq (pc := 693) (tgt := 1040) g dL_law_693 (by decide) ?_ ?_
        · exact qk8 _
        · refine qv_iconst (v := 0) (pc := 696) g dL_law_696 (by decide) ?_
          exact qv_none
      refine qv_ite _ (fun e169 => ?_) (fun n170 => ?_)
      · refine qv_tabI (pc := 32) (tgt := 698) g dL_law_32 (by rw [e169]; decide) (by rw [e169]; decide) (by rw [e169]; rfl) (by decide) ?_
        refine qv_aload_n (pc := 698) g dL_law_698 rfl rfl ?_
        refine qv_aload_n (pc := 699) g dL_law_699 rfl rfl ?_
        refine qv_iload_n (pc := 700) g dL_law_700 rfl rfl ?_
        refine qv_iconst (v := 1) (pc := 701) g dL_law_701 (by decide) ?_
        refine qv_iadd (pc := 702) g dL_law_702 ?_
        refine qv_sald (pc := 703) g hX hbl hbA dL_law_703 (fun v163 => ?_)
        refine qv_aIM (qv_cv (pc := 704) g (c_X9_pull (gl G) X 0 qv_TT _ _ M4 hx0) (qv_RL hRm (by decide) (by decide)) (qv_cL hRm (by decide) (by decide)) mw_X9_pull lk_RL_81 im_X9_pull se_X9_pull (by decide) rfl hx0 pd_X9_pull rfl (Nat.le_of_ble_eq_true rfl) dL_law_704) (fun v164 M165 => ?_)
        refine qv_aload_n (pc := 707) g dL_law_707 rfl rfl ?_
        refine qv_aload_n (pc := 708) g dL_law_708 rfl rfl ?_
        refine qv_iload_n (pc := 709) g dL_law_709 rfl rfl ?_
        refine qv_iconst (v := 1) (pc := 710) g dL_law_710 (by decide) ?_
        refine qv_iadd (pc := 711) g dL_law_711 ?_
        refine qv_sald (pc := 712) g hX hbl hbA dL_law_712 (fun v166 => ?_)
        refine qv_aIM (qv_cv (pc := 713) g (c_X10_pull (gl G) X 0 qv_TT _ _ M165 hm0) (qv_RL hRm (by decide) (by decide)) (qv_cL hRm (by decide) (by decide)) mw_X10_pull lk_RL_84 im_X10_pull se_X10_pull (by decide) rfl hm0 pd_X10_pull rfl (Nat.le_of_ble_eq_true rfl) dL_law_713) (fun v167 M168 => ?_)
        refine qv_icmp_eq (pc := 716) (tgt := 1040) g dL_law_716 (by decide) ?_ ?_
        · exact qk8 _
        · refine qv_iconst (v := 0) (pc := 719) g dL_law_719 (by decide) ?_
          exact qv_none
      refine qv_ite _ (fun e177 => ?_) (fun n178 => ?_)
      · refine qv_tabI (pc := 32) (tgt := 721) g dL_law_32 (by rw [e177]; decide) (by rw [e177]; decide) (by rw [e177]; rfl) (by decide) ?_
        refine qv_aload_n (pc := 721) g dL_law_721 rfl rfl ?_
        refine qv_aload_n (pc := 722) g dL_law_722 rfl rfl ?_
        refine qv_iload_n (pc := 723) g dL_law_723 rfl rfl ?_
        refine qv_iconst (v := 1) (pc := 724) g dL_law_724 (by decide) ?_
        refine qv_iadd (pc := 725) g dL_law_725 ?_
        refine qv_sald (pc := 726) g hX hbl hbA dL_law_726 (fun v171 => ?_)
        refine qv_aload_n (pc := 727) g dL_law_727 rfl rfl ?_
        refine qv_iload_n (pc := 728) g dL_law_728 rfl rfl ?_
        refine qv_iconst (v := 2) (pc := 729) g dL_law_729 (by decide) ?_
        refine qv_iadd (pc := 730) g dL_law_730 ?_
        refine qv_sald (pc := 731) g hX hbl hbA dL_law_731 (fun v172 => ?_)
        refine qv_aI rfl (qv_cv (pc := 732) g (c_X9_word (gl G) X 0 qv_TT _ _ _ M4 hx0) (qv_RL hRm (by decide) (by decide)) (qv_cL hRm (by decide) (by decide)) mw_X9_word lk_RL_85 im_X9_word se_X9_word (by decide) rfl hx0 pd_X9_word rfl (Nat.le_of_ble_eq_true rfl) dL_law_732) (fun v173 => ?_)
        refine qv_aload_n (pc := 735) g dL_law_735 rfl rfl ?_
        refine qv_aload_n (pc := 736) g dL_law_736 rfl rfl ?_
        refine qv_iload_n (pc := 737) g dL_law_737 rfl rfl ?_
        refine qv_iconst (v := 1) (pc := 738) g dL_law_738 (by decide) ?_
        refine qv_iadd (pc := 739) g dL_law_739 ?_
        refine qv_sald (pc := 740) g hX hbl hbA dL_law_740 (fun v174 => ?_)
        refine qv_aload_n (pc := 741) g dL_law_741 rfl rfl ?_
        refine qv_iload_n (pc := 742) g dL_law_742 rfl rfl ?_
        refine qv_iconst (v := 2) (pc := 743) g dL_law_743 (by decide) ?_
        refine qv_iadd (pc := 744) g dL_law_744 ?_
        refine qv_sald (pc := 745) g hX hbl hbA dL_law_745 (fun v175 => ?_)
        refine qv_aI rfl (qv_cv (pc := 746) g (c_X10_word (gl G) X 0 qv_TT _ _ _ M4 hm0) (qv_RL hRm (by decide) (by decide)) (qv_cL hRm (by decide) (by decide)) mw_X10_word lk_RL_88 im_X10_word se_X10_word (by decide) rfl hm0 pd_X10_word rfl (Nat.le_of_ble_eq_true rfl) dL_law_746) (fun v176 => ?_)
        refine qv_icmp_eq (pc := 749) (tgt := 1040) g dL_law_749 (by decide) ?_ ?_
        · exact qk8 _
        · refine qv_iconst (v := 0) (pc := 752) g dL_law_752 (by decide) ?_
          exact qv_none
      refine qv_ite _ (fun e187 => ?_) (fun n188 => ?_)
      · refine qv_tabI (pc := 32) (tgt := 754) g dL_law_32 (by rw [e187]; decide) (by rw [e187]; decide) (by rw [e187]; rfl) (by decide) ?_
        refine qv_aload_n (pc := 754) g dL_law_754 rfl rfl ?_
        refine qv_aload_n (pc := 755) g dL_law_755 rfl rfl ?_
        refine qv_iload_n (pc := 756) g dL_law_756 rfl rfl ?_
        refine qv_iconst (v := 1) (pc := 757) g dL_law_757 (by decide) ?_
        refine qv_iadd (pc := 758) g dL_law_758 ?_
        refine qv_sald (pc := 759) g hX hbl hbA dL_law_759 (fun v179 => ?_)
        refine qv_aload_n (pc := 760) g dL_law_760 rfl rfl ?_
        refine qv_iload_n (pc := 761) g dL_law_761 rfl rfl ?_
        refine qv_iconst (v := 2) (pc := 762) g dL_law_762 (by decide) ?_
        refine qv_iadd (pc := 763) g dL_law_763 ?_
        refine qv_sald (pc := 764) g hX hbl hbA dL_law_764 (fun v180 => ?_)
        refine qv_aIM (qv_cv (pc := 765) g (c_X9_value (gl G) X 0 qv_TT _ _ _ M4 hx0) (qv_RL hRm (by decide) (by decide)) (qv_cL hRm (by decide) (by decide)) mw_X9_value lk_RL_89 im_X9_value se_X9_value (by decide) rfl hx0 pd_X9_value rfl (Nat.le_of_ble_eq_true rfl) dL_law_765) (fun v181 M182 => ?_)
        refine qv_aload_n (pc := 768) g dL_law_768 rfl rfl ?_
        refine qv_aload_n (pc := 769) g dL_law_769 rfl rfl ?_
        refine qv_iload_n (pc := 770) g dL_law_770 rfl rfl ?_
        refine qv_iconst (v := 1) (pc := 771) g dL_law_771 (by decide) ?_
        refine qv_iadd (pc := 772) g dL_law_772 ?_
        refine qv_sald (pc := 773) g hX hbl hbA dL_law_773 (fun v183 => ?_)
        refine qv_aload_n (pc := 774) g dL_law_774 rfl rfl ?_
        refine qv_iload_n (pc := 775) g dL_law_775 rfl rfl ?_
        refine qv_iconst (v := 2) (pc := 776) g dL_law_776 (by decide) ?_
        refine qv_iadd (pc := 777) g dL_law_777 ?_
        refine qv_sald (pc := 778) g hX hbl hbA dL_law_778 (fun v184 => ?_)
        refine qv_aIM (qv_cv (pc := 779) g (c_X10_value (gl G) X 0 qv_TT _ _ _ M182 hm0) (qv_RL hRm (by decide) (by decide)) (qv_cL hRm (by decide) (by decide)) mw_X10_value lk_RL_92 im_X10_value se_X10_value (by decide) rfl hm0 pd_X10_value rfl (Nat.le_of_ble_eq_true rfl) dL_law_779) (fun v185 M186 => ?_)
        refine qv_icmp_eq (pc := 782) (tgt := 1040) g dL_law_782 (by decide) ?_ ?_
        · exact qk8 _
        · refine qv_iconst (v := 0) (pc := 785) g dL_law_785 (by decide) ?_
          exact qv_none
      refine qv_ite _ (fun e195 => ?_) (fun n196 => ?_)
      · refine qv_tabI (pc := 32) (tgt := 787) g dL_law_32 (by rw [e195]; decide) (by rw [e195]; decide) (by rw [e195]; rfl) (by decide) ?_
        refine qv_aload_n (pc := 787) g dL_law_787 rfl rfl ?_
        refine qv_aload_n (pc := 788) g dL_law_788 rfl rfl ?_
        refine qv_iload_n (pc := 789) g dL_law_789 rfl rfl ?_
        refine qv_iconst (v := 1) (pc := 790) g dL_law_790 (by decide) ?_
        refine qv_iadd (pc := 791) g dL_law_791 ?_
        refine qv_sald (pc := 792) g hX hbl hbA dL_law_792 (fun v189 => ?_)
        refine qv_aIM (qv_cv (pc := 793) g (c_X9_shorter (gl G) X 0 qv_TT _ _ M4 hx0) (qv_RL hRm (by decide) (by decide)) (qv_cL hRm (by decide) (by decide)) mw_X9_shorter lk_RL_93 im_X9_shorter se_X9_shorter (by decide) rfl hx0 pd_X9_shorter rfl (Nat.le_of_ble_eq_true rfl) dL_law_793) (fun v190 M191 => ?_)
        refine qv_aload_n (pc := 796) g dL_law_796 rfl rfl ?_
        refine qv_aload_n (pc := 797) g dL_law_797 rfl rfl ?_
        refine qv_iload_n (pc := 798) g dL_law_798 rfl rfl ?_
        refine qv_iconst (v := 1) (pc := 799) g dL_law_799 (by decide) ?_
        refine qv_iadd (pc := 800) g dL_law_800 ?_
        refine qv_sald (pc := 801) g hX hbl hbA dL_law_801 (fun v192 => ?_)
        refine qv_aIM (qv_cv (pc := 802) g (c_X10_shorter (gl G) X 0 qv_TT _ _ M191 hm0) (qv_RL hRm (by decide) (by decide)) (qv_cL hRm (by decide) (by decide)) mw_X10_shorter lk_RL_96 im_X10_shorter se_X10_shorter (by decide) rfl hm0 pd_X10_shorter rfl (Nat.le_of_ble_eq_true rfl) dL_law_802) (fun v193 M194 => ?_)
        refine qv_icmp_eq (pc := 805) (tgt := 1040) g dL_law_805 (by decide) ?_ ?_
        · exact qk8 _
        · refine qv_iconst (v := 0) (pc := 808) g dL_law_808 (by decide) ?_
          exact qv_none
      refine qv_ite _ (fun e205 => ?_) (fun n206 => ?_)
      · refine qv_tabI (pc := 32) (tgt := 810) g dL_law_32 (by rw [e205]; decide) (by rw [e205]; decide) (by rw [e205]; rfl) (by decide) ?_
        refine qv_aload_n (pc := 810) g dL_law_810 rfl rfl ?_
        refine qv_aload_n (pc := 811) g dL_law_811 rfl rfl ?_
        refine qv_iload_n (pc := 812) g dL_law_812 rfl rfl ?_
        refine qv_iconst (v := 1) (pc := 813) g dL_law_813 (by decide) ?_
        refine qv_iadd (pc := 814) g dL_law_814 ?_
        refine qv_sald (pc := 815) g hX hbl hbA dL_law_815 (fun v197 => ?_)
        refine qv_aload_n (pc := 816) g dL_law_816 rfl rfl ?_
        refine qv_iload_n (pc := 817) g dL_law_817 rfl rfl ?_
        refine qv_iconst (v := 2) (pc := 818) g dL_law_818 (by decide) ?_
        refine qv_iadd (pc := 819) g dL_law_819 ?_
        refine qv_sald (pc := 820) g hX hbl hbA dL_law_820 (fun v198 => ?_)
        refine qv_aIM (qv_cv (pc := 821) g (c_X9_normal (gl G) X 0 qv_TT _ _ _ M4 hx0) (qv_RL hRm (by decide) (by decide)) (qv_cL hRm (by decide) (by decide)) mw_X9_normal lk_RL_97 im_X9_normal se_X9_normal (by decide) rfl hx0 pd_X9_normal rfl (Nat.le_of_ble_eq_true rfl) dL_law_821) (fun v199 M200 => ?_)
        refine qv_aload_n (pc := 824) g dL_law_824 rfl rfl ?_
        refine qv_aload_n (pc := 825) g dL_law_825 rfl rfl ?_
        refine qv_iload_n (pc := 826) g dL_law_826 rfl rfl ?_
        refine qv_iconst (v := 1) (pc := 827) g dL_law_827 (by decide) ?_
        refine qv_iadd (pc := 828) g dL_law_828 ?_
        refine qv_sald (pc := 829) g hX hbl hbA dL_law_829 (fun v201 => ?_)
        refine qv_aload_n (pc := 830) g dL_law_830 rfl rfl ?_
        refine qv_iload_n (pc := 831) g dL_law_831 rfl rfl ?_
        refine qv_iconst (v := 2) (pc := 832) g dL_law_832 (by decide) ?_
        refine qv_iadd (pc := 833) g dL_law_833 ?_
        refine qv_sald (pc := 834) g hX hbl hbA dL_law_834 (fun v202 => ?_)
        refine qv_aIM (qv_cv (pc := 835) g (c_X10_normal (gl G) X 0 qv_TT _ _ _ M200 hm0) (qv_RL hRm (by decide) (by decide)) (qv_cL hRm (by decide) (by decide)) mw_X10_normal lk_RL_100 im_X10_normal se_X10_normal (by decide) rfl hm0 pd_X10_normal rfl (Nat.le_of_ble_eq_true rfl) dL_law_835) (fun v203 M204 => ?_)
        refine qv_icmp_eq (pc := 838) (tgt := 1040) g dL_law_838 (by decide) ?_ ?_
        · exact qk8 _
        · refine qv_iconst (v := 0) (pc := 841) g dL_law_841 (by decide) ?_
          exact qv_none
      refine qv_ite _ (fun e217 => ?_) (fun n218 => ?_)
      · refine qv_tabI (pc := 32) (tgt := 843) g dL_law_32 (by rw [e217]; decide) (by rw [e217]; decide) (by rw [e217]; rfl) (by decide) ?_
        refine qv_aload_n (pc := 843) g dL_law_843 rfl rfl ?_
        refine qv_aload_n (pc := 844) g dL_law_844 rfl rfl ?_
        refine qv_iload_n (pc := 845) g dL_law_845 rfl rfl ?_
        refine qv_iconst (v := 1) (pc := 846) g dL_law_846 (by decide) ?_
        refine qv_iadd (pc := 847) g dL_law_847 ?_
        refine qv_sald (pc := 848) g hX hbl hbA dL_law_848 (fun v207 => ?_)
        refine qv_aload_n (pc := 849) g dL_law_849 rfl rfl ?_
        refine qv_iload_n (pc := 850) g dL_law_850 rfl rfl ?_
        refine qv_iconst (v := 2) (pc := 851) g dL_law_851 (by decide) ?_
        refine qv_iadd (pc := 852) g dL_law_852 ?_
        refine qv_sald (pc := 853) g hX hbl hbA dL_law_853 (fun v208 => ?_)
        refine qv_aload_n (pc := 854) g dL_law_854 rfl rfl ?_
        refine qv_iload_n (pc := 855) g dL_law_855 rfl rfl ?_
        refine qv_iconst (v := 3) (pc := 856) g dL_law_856 (by decide) ?_
        refine qv_iadd (pc := 857) g dL_law_857 ?_
        refine qv_sald (pc := 858) g hX hbl hbA dL_law_858 (fun v209 => ?_)
        refine qv_aIM (qv_cv (pc := 859) g (c_X9_fits (gl G) X 0 qv_TT _ _ _ _ M4 hx0) (qv_RL hRm (by decide) (by decide)) (qv_cL hRm (by decide) (by decide)) mw_X9_fits lk_RL_101 im_X9_fits se_X9_fits (by decide) rfl hx0 pd_X9_fits rfl (Nat.le_of_ble_eq_true rfl) dL_law_859) (fun v210 M211 => ?_)
        refine qv_aload_n (pc := 862) g dL_law_862 rfl rfl ?_
        refine qv_aload_n (pc := 863) g dL_law_863 rfl rfl ?_
        refine qv_iload_n (pc := 864) g dL_law_864 rfl rfl ?_
        refine qv_iconst (v := 1) (pc := 865) g dL_law_865 (by decide) ?_
        refine qv_iadd (pc := 866) g dL_law_866 ?_
        refine qv_sald (pc := 867) g hX hbl hbA dL_law_867 (fun v212 => ?_)
        refine qv_aload_n (pc := 868) g dL_law_868 rfl rfl ?_
        refine qv_iload_n (pc := 869) g dL_law_869 rfl rfl ?_
        refine qv_iconst (v := 2) (pc := 870) g dL_law_870 (by decide) ?_
        refine qv_iadd (pc := 871) g dL_law_871 ?_
        refine qv_sald (pc := 872) g hX hbl hbA dL_law_872 (fun v213 => ?_)
        refine qv_aload_n (pc := 873) g dL_law_873 rfl rfl ?_
        refine qv_iload_n (pc := 874) g dL_law_874 rfl rfl ?_
        refine qv_iconst (v := 3) (pc := 875) g dL_law_875 (by decide) ?_
        refine qv_iadd (pc := 876) g dL_law_876 ?_
        refine qv_sald (pc := 877) g hX hbl hbA dL_law_877 (fun v214 => ?_)
        refine qv_aIM (qv_cv (pc := 878) g (c_X10_fits (gl G) X 0 qv_TT _ _ _ _ M211 hm0) (qv_RL hRm (by decide) (by decide)) (qv_cL hRm (by decide) (by decide)) mw_X10_fits lk_RL_104 im_X10_fits se_X10_fits (by decide) rfl hm0 pd_X10_fits rfl (Nat.le_of_ble_eq_true rfl) dL_law_878) (fun v215 M216 => ?_)
        refine qv_icmp_eq (pc := 881) (tgt := 1040) g dL_law_881 (by decide) ?_ ?_
        · exact qk8 _
        · refine qv_iconst (v := 0) (pc := 884) g dL_law_884 (by decide) ?_
          exact qv_none
      refine qv_ite _ (fun e227 => ?_) (fun n228 => ?_)
      · refine qv_tabI (pc := 32) (tgt := 886) g dL_law_32 (by rw [e227]; decide) (by rw [e227]; decide) (by rw [e227]; rfl) (by decide) ?_
        refine qv_aload_n (pc := 886) g dL_law_886 rfl rfl ?_
        refine qv_aload_n (pc := 887) g dL_law_887 rfl rfl ?_
        refine qv_iload_n (pc := 888) g dL_law_888 rfl rfl ?_
        refine qv_iconst (v := 1) (pc := 889) g dL_law_889 (by decide) ?_
        refine qv_iadd (pc := 890) g dL_law_890 ?_
        refine qv_sald (pc := 891) g hX hbl hbA dL_law_891 (fun v219 => ?_)
        refine qv_aload_n (pc := 892) g dL_law_892 rfl rfl ?_
        refine qv_iload_n (pc := 893) g dL_law_893 rfl rfl ?_
        refine qv_iconst (v := 2) (pc := 894) g dL_law_894 (by decide) ?_
        refine qv_iadd (pc := 895) g dL_law_895 ?_
        refine qv_sald (pc := 896) g hX hbl hbA dL_law_896 (fun v220 => ?_)
        refine qv_aIM (qv_cv (pc := 897) g (c_X9_parts (gl G) X 0 qv_TT _ _ _ M4 hx0) (qv_RL hRm (by decide) (by decide)) (qv_cL hRm (by decide) (by decide)) mw_X9_parts lk_RL_105 im_X9_parts se_X9_parts (by decide) rfl hx0 pd_X9_parts rfl (Nat.le_of_ble_eq_true rfl) dL_law_897) (fun v221 M222 => ?_)
        refine qv_aload_n (pc := 900) g dL_law_900 rfl rfl ?_
        refine qv_aload_n (pc := 901) g dL_law_901 rfl rfl ?_
        refine qv_iload_n (pc := 902) g dL_law_902 rfl rfl ?_
        refine qv_iconst (v := 1) (pc := 903) g dL_law_903 (by decide) ?_
        refine qv_iadd (pc := 904) g dL_law_904 ?_
        refine qv_sald (pc := 905) g hX hbl hbA dL_law_905 (fun v223 => ?_)
        refine qv_aload_n (pc := 906) g dL_law_906 rfl rfl ?_
        refine qv_iload_n (pc := 907) g dL_law_907 rfl rfl ?_
        refine qv_iconst (v := 2) (pc := 908) g dL_law_908 (by decide) ?_
        refine qv_iadd (pc := 909) g dL_law_909 ?_
        refine qv_sald (pc := 910) g hX hbl hbA dL_law_910 (fun v224 => ?_)
        refine qv_aIM (qv_cv (pc := 911) g (c_X10_parts (gl G) X 0 qv_TT _ _ _ M222 hm0) (qv_RL hRm (by decide) (by decide)) (qv_cL hRm (by decide) (by decide)) mw_X10_parts lk_RL_108 im_X10_parts se_X10_parts (by decide) rfl hm0 pd_X10_parts rfl (Nat.le_of_ble_eq_true rfl) dL_law_911) (fun v225 M226 => ?_)
        refine qv_icmp_eq (pc := 914) (tgt := 1040) g dL_law_914 (by decide) ?_ ?_
        · exact qk8 _
        · refine qv_iconst (v := 0) (pc := 917) g dL_law_917 (by decide) ?_
          exact qv_none
      refine qv_ite _ (fun e233 => ?_) (fun n234 => ?_)
      · refine qv_tabI (pc := 32) (tgt := 919) g dL_law_32 (by rw [e233]; decide) (by rw [e233]; decide) (by rw [e233]; rfl) (by decide) ?_
        refine qv_aload_n (pc := 919) g dL_law_919 rfl rfl ?_
        refine qv_aIM (qv_cv (pc := 920) g (c_X9_undo (gl G) X 0 qv_TT _ M4 hx0) (qv_RL hRm (by decide) (by decide)) (qv_cL hRm (by decide) (by decide)) mw_X9_undo lk_RL_109 im_X9_undo se_X9_undo (by decide) rfl hx0 pd_X9_undo rfl (Nat.le_of_ble_eq_true rfl) dL_law_920) (fun v229 M230 => ?_)
        refine qv_aload_n (pc := 923) g dL_law_923 rfl rfl ?_
        refine qv_aIM (qv_cv (pc := 924) g (c_X10_undo (gl G) X 0 qv_TT _ M230 hm0) (qv_RL hRm (by decide) (by decide)) (qv_cL hRm (by decide) (by decide)) mw_X10_undo lk_RL_113 im_X10_undo se_X10_undo (by decide) rfl hm0 pd_X10_undo rfl (Nat.le_of_ble_eq_true rfl) dL_law_924) (fun v231 M232 => ?_)
        refine qv_icmp_eq (pc := 927) (tgt := 1040) g dL_law_927 (by decide) ?_ ?_
        · exact qk8 _
        · refine qv_iconst (v := 0) (pc := 930) g dL_law_930 (by decide) ?_
          exact qv_none
      refine qv_ite _ (fun e241 => ?_) (fun n242 => ?_)
      · refine qv_tabI (pc := 32) (tgt := 932) g dL_law_32 (by rw [e241]; decide) (by rw [e241]; decide) (by rw [e241]; rfl) (by decide) ?_
        refine qv_aload_n (pc := 932) g dL_law_932 rfl rfl ?_
        refine qv_aload_n (pc := 933) g dL_law_933 rfl rfl ?_
        refine qv_iload_n (pc := 934) g dL_law_934 rfl rfl ?_
        refine qv_iconst (v := 1) (pc := 935) g dL_law_935 (by decide) ?_
        refine qv_iadd (pc := 936) g dL_law_936 ?_
        refine qv_sald (pc := 937) g hX hbl hbA dL_law_937 (fun v235 => ?_)
        refine qv_aIM (qv_cv (pc := 938) g (c_X9_feed (gl G) X 0 qv_TT _ _ M4 hx0) (qv_RL hRm (by decide) (by decide)) (qv_cL hRm (by decide) (by decide)) mw_X9_feed lk_RL_114 im_X9_feed se_X9_feed (by decide) rfl hx0 pd_X9_feed rfl (Nat.le_of_ble_eq_true rfl) dL_law_938) (fun v236 M237 => ?_)
        refine qv_aload_n (pc := 941) g dL_law_941 rfl rfl ?_
        refine qv_aload_n (pc := 942) g dL_law_942 rfl rfl ?_
        refine qv_iload_n (pc := 943) g dL_law_943 rfl rfl ?_
        refine qv_iconst (v := 1) (pc := 944) g dL_law_944 (by decide) ?_
        refine qv_iadd (pc := 945) g dL_law_945 ?_
        refine qv_sald (pc := 946) g hX hbl hbA dL_law_946 (fun v238 => ?_)
        refine qv_aIM (qv_cv (pc := 947) g (c_X10_feed (gl G) X 0 qv_TT _ _ M237 hm0) (qv_RL hRm (by decide) (by decide)) (qv_cL hRm (by decide) (by decide)) mw_X10_feed lk_RL_117 im_X10_feed se_X10_feed (by decide) rfl hm0 pd_X10_feed rfl (Nat.le_of_ble_eq_true rfl) dL_law_947) (fun v239 M240 => ?_)
        refine qv_icmp_eq (pc := 950) (tgt := 1040) g dL_law_950 (by decide) ?_ ?_
        · exact qk8 _
        · refine qv_iconst (v := 0) (pc := 953) g dL_law_953 (by decide) ?_
          exact qv_none
      refine qv_ite _ (fun e247 => ?_) (fun n248 => ?_)
      · refine qv_tabI (pc := 32) (tgt := 955) g dL_law_32 (by rw [e247]; decide) (by rw [e247]; decide) (by rw [e247]; rfl) (by decide) ?_
        refine qv_aload_n (pc := 955) g dL_law_955 rfl rfl ?_
        refine qv_aIM (qv_cv (pc := 956) g (c_X9_wipe (gl G) X 0 qv_TT _ M4 hx0) (qv_RL hRm (by decide) (by decide)) (qv_cL hRm (by decide) (by decide)) mw_X9_wipe lk_RL_118 im_X9_wipe se_X9_wipe (by decide) rfl hx0 pd_X9_wipe rfl (Nat.le_of_ble_eq_true rfl) dL_law_956) (fun v243 M244 => ?_)
        refine qv_aload_n (pc := 959) g dL_law_959 rfl rfl ?_
        refine qv_aIM (qv_cv (pc := 960) g (c_X10_wipe (gl G) X 0 qv_TT _ M244 hm0) (qv_RL hRm (by decide) (by decide)) (qv_cL hRm (by decide) (by decide)) mw_X10_wipe lk_RL_121 im_X10_wipe se_X10_wipe (by decide) rfl hm0 pd_X10_wipe rfl (Nat.le_of_ble_eq_true rfl) dL_law_960) (fun v245 M246 => ?_)
        refine qv_icmp_eq (pc := 963) (tgt := 1040) g dL_law_963 (by decide) ?_ ?_
        · exact qk8 _
        · refine qv_iconst (v := 0) (pc := 966) g dL_law_966 (by decide) ?_
          exact qv_none
      refine qv_ite _ (fun e255 => ?_) (fun n256 => ?_)
      · refine qv_tabI (pc := 32) (tgt := 968) g dL_law_32 (by rw [e255]; decide) (by rw [e255]; decide) (by rw [e255]; rfl) (by decide) ?_
        refine qv_aload_n (pc := 968) g dL_law_968 rfl rfl ?_
        refine qv_aload_n (pc := 969) g dL_law_969 rfl rfl ?_
        refine qv_iload_n (pc := 970) g dL_law_970 rfl rfl ?_
        refine qv_iconst (v := 1) (pc := 971) g dL_law_971 (by decide) ?_
        refine qv_iadd (pc := 972) g dL_law_972 ?_
        refine qv_sald (pc := 973) g hX hbl hbA dL_law_973 (fun v249 => ?_)
        refine qv_aIM (qv_cv (pc := 974) g (c_X9_write (gl G) X 0 qv_TT _ _ M4 hx0) (qv_RL hRm (by decide) (by decide)) (qv_cL hRm (by decide) (by decide)) mw_X9_write lk_RL_122 im_X9_write se_X9_write (by decide) rfl hx0 pd_X9_write rfl (Nat.le_of_ble_eq_true rfl) dL_law_974) (fun v250 M251 => ?_)
        refine qv_aload_n (pc := 977) g dL_law_977 rfl rfl ?_
        refine qv_aload_n (pc := 978) g dL_law_978 rfl rfl ?_
        refine qv_iload_n (pc := 979) g dL_law_979 rfl rfl ?_
        refine qv_iconst (v := 1) (pc := 980) g dL_law_980 (by decide) ?_
        refine qv_iadd (pc := 981) g dL_law_981 ?_
        refine qv_sald (pc := 982) g hX hbl hbA dL_law_982 (fun v252 => ?_)
        refine qv_aIM (qv_cv (pc := 983) g (c_X10_write (gl G) X 0 qv_TT _ _ M251 hm0) (qv_RL hRm (by decide) (by decide)) (qv_cL hRm (by decide) (by decide)) mw_X10_write lk_RL_125 im_X10_write se_X10_write (by decide) rfl hm0 pd_X10_write rfl (Nat.le_of_ble_eq_true rfl) dL_law_983) (fun v253 M254 => ?_)
        refine qv_icmp_eq (pc := 986) (tgt := 1040) g dL_law_986 (by decide) ?_ ?_
        · exact qk8 _
        · refine qv_iconst (v := 0) (pc := 989) g dL_law_989 (by decide) ?_
          exact qv_none
      refine qv_ite _ (fun e261 => ?_) (fun n262 => ?_)
      · refine qv_tabI (pc := 32) (tgt := 991) g dL_law_32 (by rw [e261]; decide) (by rw [e261]; decide) (by rw [e261]; rfl) (by decide) ?_
        refine qv_aload_n (pc := 991) g dL_law_991 rfl rfl ?_
        refine qv_aIM (qv_cv (pc := 992) g (c_X9_image (gl G) X 0 qv_TT _ M4 hx0) (qv_RL hRm (by decide) (by decide)) (qv_cL hRm (by decide) (by decide)) mw_X9_image lk_RL_126 im_X9_image se_X9_image (by decide) rfl hx0 pd_X9_image rfl (Nat.le_of_ble_eq_true rfl) dL_law_992) (fun v257 M258 => ?_)
        refine qv_aload_n (pc := 995) g dL_law_995 rfl rfl ?_
        refine qv_aIM (qv_cv (pc := 996) g (c_X10_image (gl G) X 0 qv_TT _ M258 hm0) (qv_RL hRm (by decide) (by decide)) (qv_cL hRm (by decide) (by decide)) mw_X10_image lk_RL_129 im_X10_image se_X10_image (by decide) rfl hm0 pd_X10_image rfl (Nat.le_of_ble_eq_true rfl) dL_law_996) (fun v259 M260 => ?_)
        refine qv_icmp_eq (pc := 999) (tgt := 1040) g dL_law_999 (by decide) ?_ ?_
        · exact qk8 _
        · refine qv_iconst (v := 0) (pc := 1002) g dL_law_1002 (by decide) ?_
          exact qv_none
      refine qv_ite _ (fun e267 => ?_) (fun n268 => ?_)
      · refine qv_tabI (pc := 32) (tgt := 1004) g dL_law_32 (by rw [e267]; decide) (by rw [e267]; decide) (by rw [e267]; rfl) (by decide) ?_
        refine qv_aload_n (pc := 1004) g dL_law_1004 rfl rfl ?_
        refine qv_aIM (qv_cv (pc := 1005) g (c_X9_restore (gl G) X 0 qv_TT _ M4 hx0) (qv_RL hRm (by decide) (by decide)) (qv_cL hRm (by decide) (by decide)) mw_X9_restore lk_RL_130 im_X9_restore se_X9_restore (by decide) rfl hx0 pd_X9_restore rfl (Nat.le_of_ble_eq_true rfl) dL_law_1005) (fun v263 M264 => ?_)
        refine qv_aload_n (pc := 1008) g dL_law_1008 rfl rfl ?_
        refine qv_aIM (qv_cv (pc := 1009) g (c_X10_restore (gl G) X 0 qv_TT _ M264 hm0) (qv_RL hRm (by decide) (by decide)) (qv_cL hRm (by decide) (by decide)) mw_X10_restore lk_RL_133 im_X10_restore se_X10_restore (by decide) rfl hm0 pd_X10_restore rfl (Nat.le_of_ble_eq_true rfl) dL_law_1009) (fun v265 M266 => ?_)
        refine qv_icmp_eq (pc := 1012) (tgt := 1040) g dL_law_1012 (by decide) ?_ ?_
        · exact qk8 _
        · refine qv_iconst (v := 0) (pc := 1015) g dL_law_1015 (by decide) ?_
          exact qv_none
      refine qv_ite _ (fun e273 => ?_) (fun n274 => ?_)
      · refine qv_tabI (pc := 32) (tgt := 1017) g dL_law_32 (by rw [e273]; decide) (by rw [e273]; decide) (by rw [e273]; rfl) (by decide) ?_
        refine qv_aload_n (pc := 1017) g dL_law_1017 rfl rfl ?_
        refine qv_aload_n (pc := 1018) g dL_law_1018 rfl rfl ?_
        refine qv_iload_n (pc := 1019) g dL_law_1019 rfl rfl ?_
        refine qv_iconst (v := 1) (pc := 1020) g dL_law_1020 (by decide) ?_
        refine qv_iadd (pc := 1021) g dL_law_1021 ?_
        refine qv_sald (pc := 1022) g hX hbl hbA dL_law_1022 (fun v269 => ?_)
        refine qv_aI rfl (qv_cv (pc := 1023) g (c_X9_told (gl G) X 0 qv_TT _ _ M4 hx0) (qv_RL hRm (by decide) (by decide)) (qv_cL hRm (by decide) (by decide)) mw_X9_told lk_RL_134 im_X9_told se_X9_told (by decide) rfl hx0 pd_X9_told rfl (Nat.le_of_ble_eq_true rfl) dL_law_1023) (fun v270 => ?_)
        refine qv_aload_n (pc := 1026) g dL_law_1026 rfl rfl ?_
        refine qv_aload_n (pc := 1027) g dL_law_1027 rfl rfl ?_
        refine qv_iload_n (pc := 1028) g dL_law_1028 rfl rfl ?_
        refine qv_iconst (v := 1) (pc := 1029) g dL_law_1029 (by decide) ?_
        refine qv_iadd (pc := 1030) g dL_law_1030 ?_
        refine qv_sald (pc := 1031) g hX hbl hbA dL_law_1031 (fun v271 => ?_)
        refine qv_aI rfl (qv_cv (pc := 1032) g (c_X10_told (gl G) X 0 qv_TT _ _ M4 hm0) (qv_RL hRm (by decide) (by decide)) (qv_cL hRm (by decide) (by decide)) mw_X10_told lk_RL_137 im_X10_told se_X10_told (by decide) rfl hm0 pd_X10_told rfl (Nat.le_of_ble_eq_true rfl) dL_law_1032) (fun v272 => ?_)
        refine qv_icmp_eq (pc := 1035) (tgt := 1040) g dL_law_1035 (by decide) ?_ ?_
        · exact qk8 _
        · refine qv_iconst (v := 0) (pc := 1038) g dL_law_1038 (by decide) ?_
          exact qv_none
      refine qv_tabD (pc := 32) (tgt := 1040) (cl := [0, 1, 2, 3, 4, 5, 6, 7, 8, 9, 10, 11, 12, 13, 14, 15, 16, 17, 18, 19, 20, 21, 22, 23, 24, 25, 26, 27, 28, 29]) (n := 30) g dL_law_32 (by decide) (by decide) (by simp [n16, n26, n36, n48, n56, n68, n74, n84, n98, n106, n113, n123, n132, n142, n152, n162, n170, n178, n188, n196, n206, n218, n228, n234, n242, n248, n256, n262, n268, n274]) (by decide) ?_
      exact qk8 _) _ _ _

