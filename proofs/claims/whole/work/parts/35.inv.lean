/-- one table i in the class's and in the reference's cells -/
def qT1 (mem : Nat → Nat → Int32) (i co ro : Nat) : Prop := mem (16 + 3 * i) 0 = qi co ∧ mem 194 i = qi co ∧ co ≤ 3 ∧ mem (16 + 3 * i) 1 = qi ro ∧ mem 195 i = qi ro ∧ ro ≤ 8 ∧ (∀ k, k < 24 → mem (16 + 3 * i + 2) k = mem 196 (24 * i + k)) ∧ (∀ k, k < 3 → mem (16 + 3 * i + 1) k = mem 197 (3 * i + k)) ∧ (∀ k, k < 3 → co ≤ k → mem (16 + 3 * i + 1) k = 0)
/-- the tables: class and reference hold the same -/
def qT (mem : Nat → Nat → Int32) (cnt : Nat) (col row : Nat → Nat) : Prop := cnt ≤ 4 ∧ mem 14 1 = qi cnt ∧ mem 193 1 = qi cnt ∧ ∀ i, i < 4 → qT1 mem i (col i) (row i)
section INV
variable {mem : Nat → Nat → Int32} {cnt : Nat} {col row : Nat → Nat} {t c : Nat}
theorem qT_key (h : qT mem cnt col row) (ht : t < cnt) (hc : c < col t) : qT (mup (mup (mup mem (16 + 3 * t + 1) c 1) 193 0 0) 197 (3 * t + c) 1) cnt col row := by
  obtain ⟨h1, h2, h3, h4⟩ := h
  have hc3 : c < 3 := by have := (h4 t (by omega)).2.2.1; omega
  have e : ∀ j q, ¬ (j = 16 + 3 * t + 1 ∧ q = c) → ¬ (j = 193 ∧ q = 0) → ¬ (j = 197 ∧ q = 3 * t + c) → mup (mup (mup mem (16 + 3 * t + 1) c 1) 193 0 0) 197 (3 * t + c) 1 j q = mem j q := by
    intro j q a b d
    rw [mup_q, if_neg d, mup_q, if_neg b, mup_q, if_neg a]
  refine ⟨h1, by rw [e _ _ (by omega) (by omega) (by omega)]; exact h2, by rw [e _ _ (by omega) (by omega) (by omega)]; exact h3, fun i hi => ?_⟩
  obtain ⟨g1, g2, g3, g4, g5, g6, g7, g8, g9⟩ := h4 i hi
  refine ⟨by rw [e _ _ (by omega) (by omega) (by omega)]; exact g1, by rw [e _ _ (by omega) (by omega) (by omega)]; exact g2, g3, by rw [e _ _ (by omega) (by omega) (by omega)]; exact g4, by rw [e _ _ (by omega) (by omega) (by omega)]; exact g5, g6, fun k hk => ?_, fun k hk => ?_, fun k hk hck => ?_⟩
  · rw [e _ _ (by omega) (by omega) (by omega), e _ _ (by omega) (by omega) (by omega)]
    exact g7 k hk
  · by_cases hx : i = t ∧ k = c
    · obtain ⟨rfl, rfl⟩ := hx
      rw [mup_at, mup_q, if_neg (by omega), mup_q, if_neg (by omega), mup_at]
    · rw [e _ _ (by omega) (by omega) (by omega), e _ _ (by omega) (by omega) (by omega)]
      exact g8 k hk
  · have hx : ¬ (i = t ∧ k = c) := by
      rintro ⟨rfl, rfl⟩
      omega
    rw [e _ _ (by omega) (by omega) (by omega)]
    exact g9 k hk hck
/-- only the reference's code was written -/
theorem qT_code (h : qT mem cnt col row) (v : Int32) : qT (mup mem 193 0 v) cnt col row := by
  obtain ⟨h1, h2, h3, h4⟩ := h
  have e : ∀ j q, ¬ (j = 193 ∧ q = 0) → mup mem 193 0 v j q = mem j q := by
    intro j q a
    rw [mup_q, if_neg a]
  refine ⟨h1, by rw [e _ _ (by omega)]; exact h2, by rw [e _ _ (by omega)]; exact h3, fun i hi => ?_⟩
  obtain ⟨g1, g2, g3, g4, g5, g6, g7, g8, g9⟩ := h4 i hi
  refine ⟨by rw [e _ _ (by omega)]; exact g1, by rw [e _ _ (by omega)]; exact g2, g3, by rw [e _ _ (by omega)]; exact g4, by rw [e _ _ (by omega)]; exact g5, g6, fun k hk => ?_, fun k hk => ?_, fun k hk hck => ?_⟩
  · rw [e _ _ (by omega), e _ _ (by omega)]
    exact g7 k hk
  · rw [e _ _ (by omega), e _ _ (by omega)]
    exact g8 k hk
  · rw [e _ _ (by omega)]
    exact g9 k hk hck
theorem qT_table {a : Nat} (h : qT mem cnt col row) (hc : cnt < 4) (ha : a ≤ 3) (h0 : row cnt = 0 ∧ col cnt = 0) (hk : ∀ k, k < 3 → mem (16 + 3 * cnt + 1) k = 0) : qT (mup (mup (mup (mup (mup mem (16 + 3 * cnt) 0 (qi a)) 14 1 (qi (cnt + 1))) 193 0 0) 194 cnt (qi a)) 193 1 (qi (cnt + 1))) (cnt + 1) (fun i => if i = cnt then a else col i) row := by
  obtain ⟨h1, h2, h3, h4⟩ := h
  have e : ∀ j q, ¬ (j = 16 + 3 * cnt ∧ q = 0) → ¬ (j = 14 ∧ q = 1) → ¬ (j = 193 ∧ q = 0) → ¬ (j = 194 ∧ q = cnt) → ¬ (j = 193 ∧ q = 1) → mup (mup (mup (mup (mup mem (16 + 3 * cnt) 0 (qi a)) 14 1 (qi (cnt + 1))) 193 0 0) 194 cnt (qi a)) 193 1 (qi (cnt + 1)) j q = mem j q := by
    intro j q a b c d f
    rw [mup_q, if_neg f, mup_q, if_neg d, mup_q, if_neg c, mup_q, if_neg b, mup_q, if_neg a]
  refine ⟨by omega, ?_, mup_at _ _ _ _, fun i hi => ?_⟩
  · rw [mup_q, if_neg (by omega), mup_q, if_neg (by omega), mup_q, if_neg (by omega), mup_at]
  obtain ⟨g1, g2, g3, g4, g5, g6, g7, g8, g9⟩ := h4 i hi
  by_cases hx : i = cnt
  · subst hx
    simp only [if_true]
    refine ⟨?_, ?_, ha, by rw [e _ _ (by omega) (by omega) (by omega) (by omega) (by omega)]; exact g4, by rw [e _ _ (by omega) (by omega) (by omega) (by omega) (by omega)]; exact g5, g6, fun k hk2 => ?_, fun k hk2 => ?_, fun k hk2 _ => ?_⟩
    · rw [mup_q, if_neg (by omega), mup_q, if_neg (by omega), mup_q, if_neg (by omega), mup_q, if_neg (by omega), mup_at]
    · rw [mup_q, if_neg (by omega), mup_at]
    · rw [e _ _ (by omega) (by omega) (by omega) (by omega) (by omega), e _ _ (by omega) (by omega) (by omega) (by omega) (by omega)]
      exact g7 k hk2
    · rw [e _ _ (by omega) (by omega) (by omega) (by omega) (by omega), e _ _ (by omega) (by omega) (by omega) (by omega) (by omega)]
      exact g8 k hk2
    · rw [e _ _ (by omega) (by omega) (by omega) (by omega) (by omega)]
      exact hk k hk2
  · simp only [if_neg hx]
    refine ⟨by rw [e _ _ (by omega) (by omega) (by omega) (by omega) (by omega)]; exact g1, by rw [e _ _ (by omega) (by omega) (by omega) (by omega) (by omega)]; exact g2, g3, by rw [e _ _ (by omega) (by omega) (by omega) (by omega) (by omega)]; exact g4, by rw [e _ _ (by omega) (by omega) (by omega) (by omega) (by omega)]; exact g5, g6, fun k hk2 => ?_, fun k hk2 => ?_, fun k hk2 hck => ?_⟩
    · rw [e _ _ (by omega) (by omega) (by omega) (by omega) (by omega), e _ _ (by omega) (by omega) (by omega) (by omega) (by omega)]
      exact g7 k hk2
    · rw [e _ _ (by omega) (by omega) (by omega) (by omega) (by omega), e _ _ (by omega) (by omega) (by omega) (by omega) (by omega)]
      exact g8 k hk2
    · rw [e _ _ (by omega) (by omega) (by omega) (by omega) (by omega)]
      exact g9 k hk2 hck
end INV
