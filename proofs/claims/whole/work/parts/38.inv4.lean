/-- tables that aren't there yet are empty -/
def qT0 (mem : Nat → Nat → Int32) (cnt : Nat) (col row : Nat → Nat) : Prop := ∀ i, cnt ≤ i → i < 4 → col i = 0 ∧ row i = 0
section INV4
variable {mem : Nat → Nat → Int32} {cnt : Nat} {col row : Nat → Nat}
theorem qT_keys0 (h : qT mem cnt col row) (h0 : qT0 mem cnt col row) (hc : cnt < 4) : ∀ k, k < 3 → mem (16 + 3 * cnt + 1) k = 0 := by
  intro k hk
  obtain ⟨-, -, -, -, -, -, -, -, g9⟩ := h.2.2.2 cnt hc
  exact g9 k hk (by rw [(h0 cnt (Nat.le_refl _) hc).1]; omega)
theorem qT0_table {mem' : Nat → Nat → Int32} {a : Nat} (h0 : qT0 mem cnt col row) : qT0 mem' (cnt + 1) (fun i => if i = cnt then a else col i) row := by
  intro i h1 h2
  have h3 := h0 i (by omega) h2
  refine ⟨?_, h3.2⟩
  show (if i = cnt then a else col i) = 0
  rw [if_neg (by omega)]
  exact h3.1
theorem qT0_row {mem' : Nat → Nat → Int32} {t r : Nat} (h0 : qT0 mem cnt col row) (ht : t < cnt) : qT0 mem' cnt col (fun i => if i = t then r else row i) := by
  intro i h1 h2
  have h3 := h0 i h1 h2
  refine ⟨h3.1, ?_⟩
  show (if i = t then r else row i) = 0
  rw [if_neg (by omega)]
  exact h3.2
/-- cells of other parts -/
theorem qT_other {mem' : Nat → Nat → Int32} (h : qT mem cnt col row) (e1 : mem' 14 1 = mem 14 1) (e2 : mem' 193 1 = mem 193 1) (e3 : ∀ j q, (16 ≤ j ∧ j < 28) ∨ (194 ≤ j ∧ j < 198) → mem' j q = mem j q) : qT mem' cnt col row := by
  obtain ⟨h1, h2, h3, h4⟩ := h
  refine ⟨h1, e1.trans h2, e2.trans h3, fun i hi => ?_⟩
  obtain ⟨g1, g2, g3, g4, g5, g6, g7, g8, g9⟩ := h4 i hi
  refine ⟨by rw [e3 _ _ (by omega)]; exact g1, by rw [e3 _ _ (by omega)]; exact g2, g3, by rw [e3 _ _ (by omega)]; exact g4, by rw [e3 _ _ (by omega)]; exact g5, g6, fun k hk => ?_, fun k hk => ?_, fun k hk hck => ?_⟩
  · rw [e3 _ _ (by omega), e3 _ _ (by omega)]
    exact g7 k hk
  · rw [e3 _ _ (by omega), e3 _ _ (by omega)]
    exact g8 k hk
  · rw [e3 _ _ (by omega)]
    exact g9 k hk hck
end INV4
