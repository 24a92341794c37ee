section INV2
variable {mem : Nat → Nat → Int32} {cnt : Nat} {col row : Nat → Nat} {t c : Nat}
theorem mrow_q {ce at_ re rs j q : Nat} {a b c v : Int32} : mrow mem ce at_ a b c re rs v j q = if j = re ∧ q = rs then v else if j = ce ∧ q = at_ + 2 then c else if j = ce ∧ q = at_ + 1 then b else if j = ce ∧ q = at_ then a else mem j q := by
  unfold mrow
  rw [mup_q, mup_q, mup_q, mup_q]
theorem qT_insert {x y z : Int32} (h : qT mem cnt col row) (ht : t < cnt) (hr : row t < 8) : qT (mrow (mup (mrow mem (16 + 3 * t + 2) (row t * 3) x y z (16 + 3 * t) 1 (qi (row t + 1))) 193 0 0) 196 (24 * t + 3 * row t) x y z 195 t (qi (row t + 1))) cnt col (fun i => if i = t then row t + 1 else row i) := by
  obtain ⟨h1, h2, h3, h4⟩ := h
  have e : ∀ j q, ¬ (j = 195 ∧ q = t) → ¬ (j = 196 ∧ 24 * t + 3 * row t ≤ q ∧ q < 24 * t + 3 * row t + 3) → ¬ (j = 193 ∧ q = 0) → ¬ (j = 16 + 3 * t ∧ q = 1) → ¬ (j = 16 + 3 * t + 2 ∧ row t * 3 ≤ q ∧ q < row t * 3 + 3) → mrow (mup (mrow mem (16 + 3 * t + 2) (row t * 3) x y z (16 + 3 * t) 1 (qi (row t + 1))) 193 0 0) 196 (24 * t + 3 * row t) x y z 195 t (qi (row t + 1)) j q = mem j q := by
    intro j q a b c d f
    rw [mrow_q, if_neg a, if_neg (by omega), if_neg (by omega), if_neg (by omega), mup_q, if_neg c, mrow_q, if_neg d, if_neg (by omega), if_neg (by omega), if_neg (by omega)]
  refine ⟨h1, by rw [e _ _ (by omega) (by omega) (by omega) (by omega) (by omega)]; exact h2, by rw [e _ _ (by omega) (by omega) (by omega) (by omega) (by omega)]; exact h3, fun i hi => ?_⟩
  obtain ⟨g1, g2, g3, g4, g5, g6, g7, g8, g9⟩ := h4 i hi
  by_cases hx : i = t
  · subst hx
    simp only [if_true]
    refine ⟨by rw [e _ _ (by omega) (by omega) (by omega) (by omega) (by omega)]; exact g1, by rw [e _ _ (by omega) (by omega) (by omega) (by omega) (by omega)]; exact g2, g3, ?_, ?_, by omega, fun k hk => ?_, fun k hk => ?_, fun k hk hck => ?_⟩
    · rw [mrow_q, if_neg (by omega), if_neg (by omega), if_neg (by omega), if_neg (by omega), mup_q, if_neg (by omega), mrow_q, if_pos ⟨rfl, rfl⟩]
    · rw [mrow_q, if_pos ⟨rfl, rfl⟩]
    · by_cases k0 : k = row i * 3
      · rw [mrow_q, if_neg (by omega), if_neg (by omega), if_neg (by omega), if_neg (by omega), mup_q, if_neg (by omega), mrow_q, if_neg (by omega), if_neg (by omega), if_neg (by omega), if_pos (by omega), mrow_q, if_neg (by omega), if_neg (by omega), if_neg (by omega), if_pos (by omega)]
      by_cases k1 : k = row i * 3 + 1
      · rw [mrow_q, if_neg (by omega), if_neg (by omega), if_neg (by omega), if_neg (by omega), mup_q, if_neg (by omega), mrow_q, if_neg (by omega), if_neg (by omega), if_pos (by omega), mrow_q, if_neg (by omega), if_neg (by omega), if_pos (by omega)]
      by_cases k2 : k = row i * 3 + 2
      · rw [mrow_q, if_neg (by omega), if_neg (by omega), if_neg (by omega), if_neg (by omega), mup_q, if_neg (by omega), mrow_q, if_neg (by omega), if_pos (by omega), mrow_q, if_neg (by omega), if_pos (by omega)]
      · rw [e _ _ (by omega) (by omega) (by omega) (by omega) (by omega), e _ _ (by omega) (by omega) (by omega) (by omega) (by omega)]
        exact g7 k hk
    · rw [e _ _ (by omega) (by omega) (by omega) (by omega) (by omega), e _ _ (by omega) (by omega) (by omega) (by omega) (by omega)]
      exact g8 k hk
    · rw [e _ _ (by omega) (by omega) (by omega) (by omega) (by omega)]
      exact g9 k hk hck
  · simp only [if_neg hx]
    refine ⟨by rw [e _ _ (by omega) (by omega) (by omega) (by omega) (by omega)]; exact g1, by rw [e _ _ (by omega) (by omega) (by omega) (by omega) (by omega)]; exact g2, g3, by rw [e _ _ (by omega) (by omega) (by omega) (by omega) (by omega)]; exact g4, by rw [e _ _ (by omega) (by omega) (by omega) (by omega) (by omega)]; exact g5, g6, fun k hk => ?_, fun k hk => ?_, fun k hk hck => ?_⟩
    · rw [e _ _ (by omega) (by omega) (by omega) (by omega) (by omega), e _ _ (by omega) (by omega) (by omega) (by omega) (by omega)]
      exact g7 k hk
    · rw [e _ _ (by omega) (by omega) (by omega) (by omega) (by omega), e _ _ (by omega) (by omega) (by omega) (by omega) (by omega)]
      exact g8 k hk
    · rw [e _ _ (by omega) (by omega) (by omega) (by omega) (by omega)]
      exact g9 k hk hck
end INV2
