theorem y_told {M : qv_Mem} {W : Nat → List Nat} {P : Nat → Nat} {Hs : List (Nat × List Nat)} {B : List Nat} (hW : yW M W) (hP : yP M P) (hH : yH M Hs) (hB : yTp M B) (p : Int32) : f_X10_told qv_TT 106 p M = some (a_told W P Hs B p) := by
  unfold f_X10_told a_told
  rcases zr_in p 10 with ⟨v, hv, v2, rfl⟩ | h
  · rw [y_in hv (by omega) (by decide), zbo, if_neg zl1n0, if_neg (zr_n hv v2), zjn]
    have k1 := y_told18 hP (fun (v2 : Int32) => qv_jn (fun (v4 : Int32) => (if nI v = 0 then qv_gS 106 22 M (fun v7 => some v7) else (if nI v = 1 then qv_gS 106 24 M (fun v6 => some v6) else (if nI v = 2 then some v2 else some v4)))) (fun k5 => qv_lp2 (b_X10_told_44 106 (nI v) M qv_TT k5) qv_N 0 0))
    rw [← zi_0] at k1
    rw [k1, zjn]
    have k2 := y_told44 hW (nI v) (fun (v4 : Int32) => (if nI v = 0 then qv_gS 106 22 M (fun v7 => some v7) else (if nI v = 1 then qv_gS 106 24 M (fun v6 => some v6) else (if nI v = 2 then some (nI (p_sum P 7)) else some v4))))
    rw [← zi_0] at k2
    rw [k2]
    by_cases c0 : nI v = 0
    · rw [if_pos c0, if_pos c0, zgS, hH.1]
    · rw [if_neg c0, if_neg c0]
      by_cases c1 : nI v = 1
      · rw [if_pos c1, if_pos c1, zgS, hB.1]
      · rw [if_neg c1, if_neg c1]
        by_cases c2 : nI v = 2
        · rw [if_pos c2, if_pos c2]
        · rw [if_neg c2, if_neg c2]
  · rw [y_in0 h (by decide), zbo, if_pos rfl, if_pos h]
