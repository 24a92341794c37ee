section INV3
variable {mem : Nat → Nat → Int32} {cnt : Nat} {col row : Nat → Nat} {t c : Nat}
/-- delete looks at no cell behind the 24 -/
theorem dlt_congr {g g' : Nat → Int32} {v : Int32} (hg : ∀ k, k < 24 → g k = g' k) (hc : c < 3) : ∀ i, i ≤ 8 → (dlt g c v i).1 = (dlt g' c v i).1 ∧ ∀ k, k < 24 → (dlt g c v i).2 k = (dlt g' c v i).2 k
  | 0, _ => ⟨rfl, hg⟩
  | i + 1, hi => by
    obtain ⟨h1, h2⟩ := dlt_congr hg hc i (by omega)
    have hl := dlt_le g c v i
    show (dst c v i (dlt g c v i)).1 = (dst c v i (dlt g' c v i)).1 ∧ ∀ k, k < 24 → (dst c v i (dlt g c v i)).2 k = (dst c v i (dlt g' c v i)).2 k
    unfold dst
    rw [h2 (i * 3 + c) (by omega)]
    by_cases hx : (dlt g' c v i).2 (i * 3 + c) = v
    · rw [if_pos hx, if_pos hx]
      exact ⟨h1, h2⟩
    · rw [if_neg hx, if_neg hx]
      refine ⟨by rw [h1], fun k hk => ?_⟩
      show cp3 _ _ _ _ k = cp3 _ _ _ _ k
      rw [h1]
      unfold cp3
      by_cases hy : (dlt g' c v i).1 * 3 ≤ k ∧ k < (dlt g' c v i).1 * 3 + 3
      · rw [if_pos hy, if_pos hy]
        exact h2 _ (by omega)
      · rw [if_neg hy, if_neg hy]
        exact h2 k hk
theorem msc_q {i j q : Nat} {f : Nat → Int32} : msc mem i f j q = if j = i then f q else mem j q := by
  unfold msc
  by_cases h : j = i
  · rw [if_pos h, if_pos h]
  · rw [if_neg h, if_neg h]
theorem mz_q {t j q : Nat} {f : Nat → Int32} (h : ¬ (j = 196 ∧ 24 * t ≤ q ∧ q < 24 * t + 24)) : mz mem t f j q = mem j q := by
  unfold mz
  rw [msc_q]
  by_cases h1 : j = 196
  · rw [if_pos h1, if_neg (fun z => h ⟨h1, z⟩), h1]
  · rw [if_neg h1]
/-- the class's cells after a delete -/
def md1 (mem : Nat → Nat → Int32) (t : Nat) (F : Nat × (Nat → Int32)) : Nat → Nat → Int32 := mup (msc mem (16 + 3 * t + 2) F.2) (16 + 3 * t) 1 (qi F.1)
/-- the reference's cells after a delete -/
def md2 (mem : Nat → Nat → Int32) (t : Nat) (F : Nat × (Nat → Int32)) : Nat → Nat → Int32 := mup (mz (mup mem 193 0 0) t F.2) 195 t (qi F.1)
theorem qT_del2 {F K : Nat × (Nat → Int32)} (h : qT mem cnt col row) (ht : t < cnt) (hF : F.1 ≤ 8) (h1 : F.1 = K.1) (h2 : ∀ k, k < 24 → F.2 k = K.2 k) : qT (md2 (md1 mem t F) t K) cnt col (fun i => if i = t then F.1 else row i) := by
  obtain ⟨a1, a2, a3, a4⟩ := h
  have e : ∀ j q, ¬ (j = 195 ∧ q = t) → ¬ (j = 196 ∧ 24 * t ≤ q ∧ q < 24 * t + 24) → ¬ (j = 193 ∧ q = 0) → ¬ (j = 16 + 3 * t ∧ q = 1) → ¬ j = 16 + 3 * t + 2 → md2 (md1 mem t F) t K j q = mem j q := by
    intro j q a b c d f
    unfold md2 md1
    rw [mup_q, if_neg a, mz_q b, mup_q, if_neg c, mup_q, if_neg d, msc_q, if_neg f]
  refine ⟨a1, by rw [e _ _ (by omega) (by omega) (by omega) (by omega) (by omega)]; exact a2, by rw [e _ _ (by omega) (by omega) (by omega) (by omega) (by omega)]; exact a3, fun i hi => ?_⟩
  obtain ⟨g1, g2, g3, g4, g5, g6, g7, g8, g9⟩ := a4 i hi
  by_cases hx : i = t
  · subst hx
    simp only [if_true]
    refine ⟨by rw [e _ _ (by omega) (by omega) (by omega) (by omega) (by omega)]; exact g1, by rw [e _ _ (by omega) (by omega) (by omega) (by omega) (by omega)]; exact g2, g3, ?_, ?_, hF, fun k hk => ?_, fun k hk => ?_, fun k hk hck => ?_⟩
    · unfold md2 md1
      rw [mup_q, if_neg (by omega), mz_q (by omega), mup_q, if_neg (by omega), mup_at]
    · unfold md2
      rw [mup_at, h1]
    · unfold md2
      rw [mup_q, if_neg (by omega), mz_q (by omega), mup_q, if_neg (by omega), mup_q, if_neg (by omega), mz_at hk]
      unfold md1
      rw [mup_q, if_neg (by omega), msc_at]
      exact h2 k hk
    · rw [e _ _ (by omega) (by omega) (by omega) (by omega) (by omega), e _ _ (by omega) (by omega) (by omega) (by omega) (by omega)]
      exact g8 k hk
    · rw [e _ _ (by omega) (by omega) (by omega) (by omega) (by omega)]
      exact g9 k hk hck
  · simp only [if_neg hx]
    refine ⟨by rw [e _ _ (by omega) (by omega) (by omega) (by omega) (by omega)]; exact g1, by rw [e _ _ (by omega) (by omega) (by omega) (by omega) (by omega)]; exact g2, g3, by rw [e _ _ (by omega) (by omega) (by omega) (by omega) (by omega)]; exact g4, by rw [e _ _ (by omega) (by omega) (by omega) (by omega) (by omega)]; exact g5, g6, fun k hk => ?_, fun k hk => ?_, fun k hk hck => ?_⟩
    · rw [e _ _ (by omega) (by omega) (by omega) (by omega) (by omega), e _ _ (by omega) (by omega) (by omega) (by omega) (by omega)]
      exact g7 k hk
    · rw [e _ _ (by omega) (by omega) (by omega) (by omega) (by omega), e _ _ (by omega) (by omega) (by omega) (by omega) (by omega)]
      exact g8 k hk
    · rw [e _ _ (by omega) (by omega) (by omega) (by omega) (by omega)]
      exact g9 k hk hck
end INV3
