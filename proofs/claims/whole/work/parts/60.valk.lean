theorem a_vl_ok {l : List Nat} (h60 : l.length ≤ 60) (hg : ∀ g ∈ l, g < 7) : a_vl l = zq_val l ∧ zq_ok (a_vl l) := by
  have e : a_vl l = zq_val l := by
    unfold a_vl
    rw [a_ar_val _ 0 _ zq_ok.one.ls (by omega), zq_one_lm (zq_val_ls _), List.drop_zero, List.take_of_length_le (by omega)]
  exact ⟨e, l, hg, e⟩
theorem a_value_k {R : Nat → zq_T} {W : Nat → List Nat} (hR : zRk R) (hk : zWk W) (p q : Int32) : zRk (a_value R W p q).2 := by
  unfold a_value
  rcases zr_in p 4 with ⟨r, hr, h2, rfl⟩ | h
  · rcases zr_in q 3 with ⟨w, hw, w2, rfl⟩ | h'
    · rw [if_neg (fun q => q.elim (zr_n hr h2) (zr_n hw w2)), zi_cl h2, zi_cl w2]
      exact hR.settle (a_vl_ok (hk w hw).1 (hk w hw).2).2
    · rw [if_pos (Or.inr h')]
      exact hR
  · rw [if_pos (Or.inl h)]
    exact hR
