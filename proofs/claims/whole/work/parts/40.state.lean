/-- a block's slot against the reference's value -/
def qsl (mem : Nat → Nat → Int32) (B sl : Nat) (v : Int32) (ns : Nat) (tb col : Nat → Nat) : Prop :=
  (mem (B + 5) sl = -1 ∧ v = 2000 + mem (B + 6) sl ∧ 1000 < v ∧ v < 3000) ∨ (∃ s c, s < ns ∧ c < col (tb s) ∧ mem (B + 5) sl = qi s ∧ mem (B + 6) sl = qi c ∧ v = qi (3 * s + c))
/-- a block at B against the reference's block mb -/
def qB1 (mem : Nat → Nat → Int32) (B mb cnt : Nat) (col : Nat → Nat) : Prop := ∃ no ns nc : Nat, ∃ tb : Nat → Nat,
  (1 ≤ no ∧ no ≤ 3) ∧ (1 ≤ ns ∧ ns ≤ 4) ∧ nc ≤ 6 ∧ mem B 0 = mem 201 mb ∧ (mem B 1 = qi no ∧ mem 202 mb = qi no) ∧ (mem B 2 = qi ns ∧ mem 204 mb = qi ns) ∧ (mem B 3 = qi nc ∧ mem 207 mb = qi nc) ∧
  (∀ k, k < ns → tb k < cnt ∧ mem (B + 1) k = qi (tb k) ∧ mem 205 (4 * mb + k) = qi (tb k)) ∧
  (∀ k, k < no → qsl mem B k (mem 203 (3 * mb + k)) ns tb col) ∧
  (∀ k, k < nc → qsl mem B (3 + 2 * k) (mem 208 (6 * mb + k)) ns tb col ∧ qsl mem B (4 + 2 * k) (mem 209 (6 * mb + k)) ns tb col ∧ mem (B + 3) k = mem 210 (6 * mb + k))
def qsg (x y : Int32) : Prop := (x = 43 ∧ y = 0) ∨ (x = 45 ∧ y = 1) ∨ (x = 94 ∧ y = 2)
def qQ1 (mem : Nat → Nat → Int32) (q cnt : Nat) (col : Nat → Nat) : Prop := ∃ nb : Nat, (1 ≤ nb ∧ nb ≤ 3) ∧ mem (36 + 24 * q) 0 = qi nb ∧ mem 199 q = qi nb ∧
  (∀ b, b < nb → qB1 mem (39 + 24 * q + 7 * b) (3 * q + b) cnt col) ∧ (∀ b, b < nb → mem (39 + 24 * q + 7 * b) 1 = mem (39 + 24 * q) 1) ∧
  (∀ b, b + 1 < nb → qsg (mem (38 + 24 * q) b) (mem 200 (2 * q + b)))
def b01 (x : Int32) : Prop := x = 0 ∨ x = 1
def qQs (mem : Nat → Nat → Int32) (cnt : Nat) (col : Nat → Nat) : Prop := ∃ nq : Nat, nq ≤ 4 ∧ mem 13 4 = qi nq ∧ mem 193 13 = qi nq ∧ (∀ q, q < nq → qQ1 mem q cnt col) ∧ ∀ q, b01 (mem 201 q) ∧ b01 (mem 210 q)
/-- the text -/
def qTx (mem : Nat → Nat → Int32) : Prop := ∃ L : Nat, L ≤ 200 ∧ mem 28 1 = qi L ∧ mem 193 6 = qi L ∧ ∀ k, k < L → mem 29 k = mem 198 k ∧ ¬ mem 29 k < 32 ∧ mem 29 k ≤ 126
/-- the last answer -/
def qAn (mem : Nat → Nat → Int32) (sw : Bool) : Prop := ∃ n wd : Nat, n ≤ 64 ∧ wd ≤ 3 ∧ mem (swp sw 161) 1 = qi n ∧ mem (swp sw 161) 0 = qi wd ∧ mem 193 33 = qi n ∧ mem 193 34 = qi wd ∧
  (∀ i c, i < n → c < wd → mem (swp sw 161 + 1) (3 * i + c) = mem 215 (3 * i + c)) ∧ (∀ i, i < n → mem (swp sw 161 + 2) i = mem 216 i) ∧ ∀ i, i < 4 → mem 192 i = 0
def qR (mem : Nat → Nat → Int32) (sw : Bool) (cnt : Nat) (col : Nat → Nat) : Prop := qTx mem ∧ mem 13 5 = mem 193 8 ∧ qAn mem sw ∧ qQs mem cnt col
def qI (mem : Nat → Nat → Int32) (sw : Bool) : Prop := ∃ cnt col row, qT mem cnt col row ∧ qT0 mem cnt col row ∧ qR mem sw cnt col
section STA
variable {mem mem' : Nat → Nat → Int32} {sw : Bool} {cnt : Nat} {col row : Nat → Nat}
theorem sw_c (sw : Bool) : swp sw 161 = 161 ∨ swp sw 161 = 164 := by cases sw <;> simp [swp]
theorem qsl_mono {mm mm' : Nat → Nat → Int32} {B sl ns : Nat} {v : Int32} {tb col' : Nat → Nat} (e5 : mm' (B + 5) sl = mm (B + 5) sl) (e6 : mm' (B + 6) sl = mm (B + 6) sl) (hc : ∀ k, k < ns → col' (tb k) = col (tb k)) (h : qsl mm B sl v ns tb col) : qsl mm' B sl v ns tb col' := by
  rcases h with ⟨h1, h2, h3, h4⟩ | ⟨s, c, h1, h2, h3, h4, h5⟩
  · exact Or.inl ⟨by rw [e5]; exact h1, by rw [e6]; exact h2, h3, h4⟩
  · exact Or.inr ⟨s, c, h1, by rw [hc s h1]; exact h2, by rw [e5]; exact h3, by rw [e6]; exact h4, h5⟩
theorem qB1_mono {B mb cnt' : Nat} {col' : Nat → Nat} (e1 : ∀ j q, B ≤ j → j < B + 7 → mem' j q = mem j q) (e2 : ∀ j q, 201 ≤ j → j < 211 → mem' j q = mem j q) (hc1 : cnt ≤ cnt') (hc : ∀ k, k < cnt → col' k = col k) (h : qB1 mem B mb cnt col) : qB1 mem' B mb cnt' col' := by
  obtain ⟨no, ns, nc, tb, h1, h2, h3, h4, h5, h6, h7, h8, h9, h10⟩ := h
  have hcc : ∀ k, k < ns → col' (tb k) = col (tb k) := fun k hk => hc _ (h8 k hk).1
  refine ⟨no, ns, nc, tb, h1, h2, h3, ?_, ⟨?_, ?_⟩, ⟨?_, ?_⟩, ⟨?_, ?_⟩, fun k hk => ⟨?_, ?_, ?_⟩, fun k hk => ?_, fun k hk => ⟨?_, ?_, ?_⟩⟩
  · rw [e1 _ _ (by omega) (by omega), e2 _ _ (by omega) (by omega)]; exact h4
  · rw [e1 _ _ (by omega) (by omega)]; exact h5.1
  · rw [e2 _ _ (by omega) (by omega)]; exact h5.2
  · rw [e1 _ _ (by omega) (by omega)]; exact h6.1
  · rw [e2 _ _ (by omega) (by omega)]; exact h6.2
  · rw [e1 _ _ (by omega) (by omega)]; exact h7.1
  · rw [e2 _ _ (by omega) (by omega)]; exact h7.2
  · exact Nat.lt_of_lt_of_le (h8 k hk).1 hc1
  · rw [e1 _ _ (by omega) (by omega)]; exact (h8 k hk).2.1
  · rw [e2 _ _ (by omega) (by omega)]; exact (h8 k hk).2.2
  · rw [e2 _ _ (by omega) (by omega)]; exact qsl_mono (e1 _ _ (by omega) (by omega)) (e1 _ _ (by omega) (by omega)) hcc (h9 k hk)
  · rw [e2 _ _ (by omega) (by omega)]; exact qsl_mono (e1 _ _ (by omega) (by omega)) (e1 _ _ (by omega) (by omega)) hcc (h10 k hk).1
  · rw [e2 _ _ (by omega) (by omega)]; exact qsl_mono (e1 _ _ (by omega) (by omega)) (e1 _ _ (by omega) (by omega)) hcc (h10 k hk).2.1
  · rw [e1 _ _ (by omega) (by omega), e2 _ _ (by omega) (by omega)]; exact (h10 k hk).2.2
theorem qQ1_mono {q cnt' : Nat} {col' : Nat → Nat} (e1 : ∀ j x, 36 + 24 * q ≤ j → j < 36 + 24 * q + 24 → mem' j x = mem j x) (e2 : ∀ j x, 201 ≤ j → j < 211 → mem' j x = mem j x) (e3 : mem' 199 q = mem 199 q) (e4 : ∀ b, b < 2 → mem' 200 (2 * q + b) = mem 200 (2 * q + b)) (hc1 : cnt ≤ cnt') (hc : ∀ k, k < cnt → col' k = col k) (h : qQ1 mem q cnt col) : qQ1 mem' q cnt' col' := by
  obtain ⟨nb, h1, h2, h3, h4, h5, h6⟩ := h
  refine ⟨nb, h1, ?_, ?_, fun b hb => ?_, fun b hb => ?_, fun b hb => ?_⟩
  · rw [e1 _ _ (by omega) (by omega)]; exact h2
  · rw [e3]; exact h3
  · exact qB1_mono (fun j x a b => e1 j x (by omega) (by omega)) e2 hc1 hc (h4 b hb)
  · rw [e1 _ _ (by omega) (by omega), e1 _ _ (by omega) (by omega)]; exact h5 b hb
  · rw [e1 _ _ (by omega) (by omega), e4 _ (by omega)]; exact h6 b hb
theorem qQs_mono {cnt' : Nat} {col' : Nat → Nat} (e0 : mem' 13 4 = mem 13 4) (e9 : mem' 193 13 = mem 193 13) (e1 : ∀ j x, 36 ≤ j → j < 156 → mem' j x = mem j x) (e2 : ∀ j x, 199 ≤ j → j < 211 → mem' j x = mem j x) (hc1 : cnt ≤ cnt') (hc : ∀ k, k < cnt → col' k = col k) (h : qQs mem cnt col) : qQs mem' cnt' col' := by
  obtain ⟨nq, h1, h2, h3, h4, h5⟩ := h
  refine ⟨nq, h1, by rw [e0]; exact h2, by rw [e9]; exact h3, fun q hq => ?_, fun q => by rw [e2 _ _ (by omega) (by omega), e2 _ _ (by omega) (by omega)]; exact h5 q⟩
  exact qQ1_mono (fun j x a b => e1 j x (by omega) (by omega)) (fun j x a b => e2 j x (by omega) b) (e2 _ _ (by omega) (by omega)) (fun b hb => e2 _ _ (by omega) (by omega)) hc1 hc (h4 q hq)
theorem qTx_mono (e1 : mem' 28 1 = mem 28 1) (e2 : mem' 193 6 = mem 193 6) (e3 : ∀ k, mem' 29 k = mem 29 k) (e4 : ∀ k, mem' 198 k = mem 198 k) (h : qTx mem) : qTx mem' := by
  obtain ⟨L, h1, h2, h3, h4⟩ := h
  exact ⟨L, h1, by rw [e1]; exact h2, by rw [e2]; exact h3, fun k hk => by rw [e3, e4]; exact h4 k hk⟩
theorem qAn_mono (e1 : ∀ j q, 161 ≤ j → j < 167 → mem' j q = mem j q) (e2 : ∀ q, 33 ≤ q → q < 35 → mem' 193 q = mem 193 q) (e3 : ∀ j q, 192 ≤ j → (j = 192 ∨ (215 ≤ j ∧ j < 217)) → mem' j q = mem j q) (h : qAn mem sw) : qAn mem' sw := by
  obtain ⟨n, wd, h1, h2, h3, h4, h5, h6, h7, h8⟩ := h
  have hs := sw_c sw
  refine ⟨n, wd, h1, h2, ?_, ?_, ?_, ?_, fun i c hi hc => ?_, fun i hi => ?_, fun i hi => ?_⟩
  · rw [e1 _ _ (by omega) (by omega)]; exact h3
  · rw [e1 _ _ (by omega) (by omega)]; exact h4
  · rw [e2 _ (by omega) (by omega)]; exact h5
  · rw [e2 _ (by omega) (by omega)]; exact h6
  · rw [e1 _ _ (by omega) (by omega), e3 _ _ (by omega) (by omega)]; exact h7 i c hi hc
  · rw [e1 _ _ (by omega) (by omega), e3 _ _ (by omega) (by omega)]; exact h8.1 i hi
  · rw [e3 _ _ (by omega) (by omega)]; exact h8.2 i hi
/-- only the tables' cells were written -/
theorem qR_tab {cnt' : Nat} {col' : Nat → Nat} (e : ∀ j q, ¬ (14 ≤ j ∧ j < 28) → ¬ (j = 193 ∧ q ≤ 1) → ¬ (194 ≤ j ∧ j < 198) → mem' j q = mem j q) (hc1 : cnt ≤ cnt') (hc : ∀ k, k < cnt → col' k = col k) (h : qR mem sw cnt col) : qR mem' sw cnt' col' := by
  obtain ⟨h1, h2, h3, h4⟩ := h
  refine ⟨qTx_mono (e _ _ (by omega) (by omega) (by omega)) (e _ _ (by omega) (by omega) (by omega)) (fun k => e _ _ (by omega) (by omega) (by omega)) (fun k => e _ _ (by omega) (by omega) (by omega)) h1, ?_, qAn_mono (fun j q a b => e _ _ (by omega) (by omega) (by omega)) (fun q a b => e _ _ (by omega) (by omega) (by omega)) (fun j q a b => e _ _ (by omega) (by omega) (by omega)) h3, qQs_mono (e _ _ (by omega) (by omega) (by omega)) (e _ _ (by omega) (by omega) (by omega)) (fun j q a b => e _ _ (by omega) (by omega) (by omega)) (fun j q a b => e _ _ (by omega) (by omega) (by omega)) hc1 hc h4⟩
  rw [e _ _ (by omega) (by omega) (by omega), e _ _ (by omega) (by omega) (by omega)]; exact h2
theorem qR_tab0 (e : ∀ j q, ¬ (14 ≤ j ∧ j < 28) → ¬ (j = 193 ∧ q ≤ 1) → ¬ (194 ≤ j ∧ j < 198) → mem' j q = mem j q) (h : qR mem sw cnt col) : qR mem' sw cnt col := qR_tab e (Nat.le_refl _) (fun _ _ => rfl) h
theorem qI_code (v : Int32) (h : qI mem sw) : qI (mup mem 193 0 v) sw := by
  obtain ⟨cnt, col, row, h1, h2, h3⟩ := h
  exact ⟨cnt, col, row, qT_code h1 v, h2, qR_tab0 (fun j q _ b _ => by rw [mup_q, if_neg (by omega)]) h3⟩
end STA
