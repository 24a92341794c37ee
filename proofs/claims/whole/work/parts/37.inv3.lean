section INV3
variable {mem : Nat → Nat → Int32} {cnt : Nat} {col row : Nat → Nat} {t c : Nat}
/-- delete looks at no cell behind the 24 -/
theorem dlt_congr {g g' : Nat → Int32} {v : Int32} (hg : ∀ k, k < 24 → g k = g' k) (hc : c < 3) : ∀ i, i ≤ 8 → (dlt g c v i).1 = (dlt g' c v i).1 ∧ ∀ k, k < 24 → (dlt g c v i).2 k = (dlt g' c v i).2 k
  | 0, _ => ⟨rfl, hg⟩
  | i + 1, hi => by
    obtain ⟨h1, h2⟩ := dlt_congr hg hc i (by omega)
    have hl := dlt_le g c v i
    show (dst c v i (dlt g c v i)).1 = (dst c v i (dlt g' c v i)).1 ∧ ∀ k, k < 24 → (dst c v i (dlt g c v i)).2 k = (dst c v i (dlt g' c v i)).2 k
    unfold dst
    rw [h2 (i * 3 + c) (by omega)]
    by_cases hx : (dlt g' c v i).2 (i * 3 + c) = v
    · rw [if_pos hx, if_pos hx]
      exact ⟨h1, h2⟩
    · rw [if_neg hx, if_neg hx]
      refine ⟨by rw [h1], fun k hk => ?_⟩
      show cp3 _ _ _ _ k = cp3 _ _ _ _ k
      rw [h1]
      unfold cp3
      by_cases hy : (dlt g' c v i).1 * 3 ≤ k ∧ k < (dlt g' c v i).1 * 3 + 3
      · rw [if_pos hy, if_pos hy]
        exact h2 _ (by omega)
      · rw [if_neg hy, if_neg hy]
        exact h2 k hk
end INV3
