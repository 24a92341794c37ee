abbrev qi (n : Nat) : Int32 := Int32.ofNat n
theorem qi_add (a b : Nat) : qi a + qi b = qi (a + b) := (Int32.ofNat_add a b).symm
theorem qi_mul (a b : Nat) : qi a * qi b = qi (a * b) := (Int32.ofNat_mul a b).symm
theorem qi_sub {a b : Nat} (h : b ≤ a) : qi a - qi b = qi (a - b) := (Int32.ofNat_sub a b h).symm
theorem qi_1 (a : Nat) : qi a + 1 = qi (a + 1) := qi_add a 1
theorem qi_s1 {a : Nat} (h : 1 ≤ a) : qi a - 1 = qi (a - 1) := qi_sub h
theorem qi_le {a b : Nat} (ha : a < 2147483648) (hb : b < 2147483648) : qi a ≤ qi b ↔ a ≤ b := Int32.ofNat_le_iff_le ha hb
theorem qi_lt {a b : Nat} (ha : a < 2147483648) (hb : b < 2147483648) : qi a < qi b ↔ a < b := Int32.ofNat_lt_iff_lt ha hb
theorem qi_N {a : Nat} (ha : a < 2147483648) : (qi a).toNatClampNeg = a := Int32.toNatClampNeg_ofNat_of_lt ha
theorem qi_inj {a b : Nat} (ha : a < 2147483648) (hb : b < 2147483648) (h : qi a = qi b) : a = b := by
  have h1 := qi_N ha
  rw [h, qi_N hb] at h1
  exact h1.symm
theorem qi_p {a : Nat} (ha : a < 2147483648) : ¬ qi a < 0 := fun h => Nat.not_lt_zero a ((qi_lt (b := 0) ha (by omega)).mp h)
theorem qi_inx {a n : Nat} (h : a < n) (hn : n ≤ 2147483648) : inx (qi a) n := by
  have ha : a < 2147483648 := by omega
  exact ⟨qi_p ha, by rw [qi_N ha]; exact h⟩
/-- an int that isn't below 0 is one of these -/
theorem qi_of {x : Int32} (h : ¬ x < 0) : ∃ n : Nat, n < 2147483648 ∧ x = qi n := ⟨x.toNatClampNeg, Int32.toNatClampNeg_lt x, (Int32.ofNat_toNatClampNeg x (k2_le h)).symm⟩
theorem mup_q {mem : Nat → Nat → Int32} {i k j q : Nat} {v : Int32} : mup mem i k v j q = if j = i ∧ q = k then v else mem j q := by
  unfold mup
  by_cases h : j = i
  · subst h
    by_cases h2 : q = k
    · simp [h2]
    · simp [h2]
  · simp [h]
section TB
variable {d : Nat} {P : qE → Prop} {X : qH} {mem : Nat → Nat → Int32} {sw : Bool} {o : Int64} {e : List Nat} {t : Nat}
theorem cTab_cell {r c : Nat} (hX : X.length = 13) (ht : kTab t) (hr : r < 8) (hc : c < 3) (hp : P (.inl (some (.int (mem (t + 2) (r * 3 + c)))), hpo X mem sw o e)) : QW d mTab_cell 0 (qen 3 [.ref t, .int (qi r), .int (qi c)]) [] (hpo X mem sw o e) P := by
  have h1 : qi r * 3 + qi c = qi (r * 3 + c) := by
    show qi r * qi 3 + qi c = _
    rw [qi_mul, qi_add]
  refine bTab_cell_0 hX ht ?_ ?_
  · rw [h1]; exact qi_inx (by omega) (by omega)
  · rw [h1, qi_N (by omega)]; exact hp
theorem cTab_isTaken {n c : Nat} {v : Int32} (hX : X.length = 13) (ht : kTab t) (hn : mem t 1 = qi n) (hn8 : n ≤ 8) (hc : c < 3) (k1 : ¬ mem (t + 1) c = 0 → (∃ i, i < n ∧ mem (t + 2) (i * 3 + c) = v) → P (.inl (some (.int 1)), hpo X mem sw o e)) (k0 : (mem (t + 1) c = 0 ∨ ∀ i, i < n → ¬ mem (t + 2) (i * 3 + c) = v) → P (.inl (some (.int 0)), hpo X mem sw o e)) : QW (d + 1) mTab_isTaken 0 (qen 4 [.ref t, .int (qi c), .int v]) [] (hpo X mem sw o e) P := by
  have loop : ¬ mem (t + 1) c = 0 → ∀ (m i : Nat), n - i = m → i ≤ n → (∀ j, j < i → ¬ mem (t + 2) (j * 3 + c) = v) → QW (d + 1) mTab_isTaken 13 (lTab_isTaken_13 (qi c) v (qi i) t) [] (hpo X mem sw o e) P := by
    intro hk m
    induction m with
    | zero =>
      intro i hm hi hj
      refine bTab_isTaken_13 hX ht (fun z => k0 (Or.inr (fun j hjn => hj j (by omega)))) (fun z => ?_)
      rw [hn, qi_le (by omega) (by omega)] at z
      omega
    | succ m ih =>
      intro i hm hi hj
      refine bTab_isTaken_13 hX ht (fun z => ?_) (fun z => ?_)
      · rw [hn, qi_le (by omega) (by omega)] at z
        omega
      refine cTab_cell hX ht (by omega) hc (qcl_i ?_)
      refine bTab_isTaken_27 hX ht (fun z2 => ?_) (fun z2 => k1 hk ⟨i, by omega, z2⟩)
      rw [qi_1]
      refine ih (i + 1) (by omega) (by omega) (fun j hj2 => ?_)
      by_cases h : j = i
      · subst h; exact z2
      · exact hj j (by omega)
  refine bTab_isTaken_0 hX ht (qi_inx hc (by omega)) (fun z => ?_) (fun z => ?_)
  · rw [qi_N (by omega)] at z
    exact loop z n 0 rfl (Nat.zero_le n) (fun j hj => absurd hj (Nat.not_lt_zero j))
  · rw [qi_N (by omega)] at z
    exact k0 (Or.inl z)
theorem cTab_hasTwins {n c : Nat} (hX : X.length = 13) (ht : kTab t) (hn : mem t 1 = qi n) (hn8 : n ≤ 8) (hc : c < 3) (k1 : (∃ i j, i < j ∧ j < n ∧ mem (t + 2) (i * 3 + c) = mem (t + 2) (j * 3 + c)) → P (.inl (some (.int 1)), hpo X mem sw o e)) (k0 : (∀ i j, i < j → j < n → ¬ mem (t + 2) (i * 3 + c) = mem (t + 2) (j * 3 + c)) → P (.inl (some (.int 0)), hpo X mem sw o e)) : QW (d + 1) mTab_hasTwins 0 (qen 4 [.ref t, .int (qi c)]) [] (hpo X mem sw o e) P := by
  have loop : ∀ (m i : Nat), n - i = m → i ≤ n → (∀ a b, a < i → a < b → b < n → ¬ mem (t + 2) (a * 3 + c) = mem (t + 2) (b * 3 + c)) → ∀ w, qfr w → QW (d + 1) mTab_hasTwins 2 (lTab_hasTwins_2 (qi c) (qi i) w t) [] (hpo X mem sw o e) P := by
    intro m
    induction m with
    | zero =>
      intro i hm hi hj w hw
      refine bTab_hasTwins_2 hX ht hw (fun z => k0 (fun a b hab hb => hj a b (by omega) hab hb)) (fun z => ?_)
      rw [hn, qi_le (by omega) (by omega)] at z
      omega
    | succ m ih =>
      intro i hm hi hj w hw
      refine bTab_hasTwins_2 hX ht hw (fun z => ?_) (fun z => ?_)
      · rw [hn, qi_le (by omega) (by omega)] at z
        omega
      rw [qi_1]
      have inner : ∀ (m2 b : Nat), n - b = m2 → i < b → b ≤ n → (∀ q, i < q → q < b → ¬ mem (t + 2) (i * 3 + c) = mem (t + 2) (q * 3 + c)) → QW (d + 1) mTab_hasTwins 14 (lTab_hasTwins_14 (qi c) (qi i) (qi b) t) [] (hpo X mem sw o e) P := by
        intro m2
        induction m2 with
        | zero =>
          intro b hm2 hib hb hq
          refine bTab_hasTwins_14 hX ht (fun z => ?_) (fun z => ?_)
          · rw [qi_1]
            refine ih (i + 1) (by omega) (by omega) (fun a q ha haq hqn => ?_) _ (Or.inr (Or.inl ⟨_, rfl⟩))
            by_cases h : a = i
            · subst h; exact hq q haq (by omega)
            · exact hj a q (by omega) haq hqn
          · rw [hn, qi_le (by omega) (by omega)] at z
            omega
        | succ m2 ih2 =>
          intro b hm2 hib hb hq
          refine bTab_hasTwins_14 hX ht (fun z => ?_) (fun z => ?_)
          · rw [hn, qi_le (by omega) (by omega)] at z
            omega
          refine cTab_cell hX ht (by omega) hc (qcl_i ?_)
          refine bTab_hasTwins_28 hX ht ?_
          refine cTab_cell hX ht (by omega) hc (qcl_i ?_)
          refine bTab_hasTwins_34 hX ht (fun z2 => ?_) (fun z2 => k1 ⟨i, b, hib, by omega, z2⟩)
          rw [qi_1]
          refine ih2 (b + 1) (by omega) (by omega) (by omega) (fun q hiq hqb => ?_)
          by_cases h : q = b
          · subst h; exact z2
          · exact hq q hiq (by omega)
      exact inner (n - (i + 1)) (i + 1) rfl (by omega) (by omega) (fun q h1 h2 => by omega)
  refine bTab_hasTwins_0 hX ht ?_
  exact loop n 0 rfl (Nat.zero_le n) (fun a b h => absurd h (Nat.not_lt_zero a)) _ (Or.inl rfl)
end TB
