section TB9
variable {d : Nat} {P : qE → Prop} {X : qH} {mem : Nat → Nat → Int32} {sw : Bool} {o : Int64} {e : List Nat}
theorem cBag_has {t n : Nat} {a : Int32} (hX : X.length = 13) (ht : kBag t) (hn : mem t 1 = qi n) (hn2 : n ≤ 64) (k1 : ∀ i, i < n → a = qi i → P (.inl (some (.int 1)), hpo X mem sw o e)) (k0 : (∀ i, i < n → ¬ a = qi i) → P (.inl (some (.int 0)), hpo X mem sw o e)) : QW d mBag_has 0 (qen 2 [.ref t, .int a]) [] (hpo X mem sw o e) P := by
  refine bBag_has_0 hX ht (fun z => k0 ?_) (fun z z2 => k0 ?_) (fun z z2 => ?_)
  · rintro i hi rfl
    exact qi_p (by omega) z
  · rintro i hi rfl
    rw [hn, qi_le (by omega) (by omega)] at z2
    omega
  · obtain ⟨i, h1, rfl⟩ := qi_of z
    rw [hn, qi_le (by omega) (by omega)] at z2
    exact k1 i (by omega) rfl
theorem cBp_times {n : Nat} {a : Int32} (hX : X.length = 13) (hn : mem (swp sw 161) 1 = qi n) (hn2 : n ≤ 64) (he : e.length < 10000) (k1 : ∀ i, i < n → a = qi i → P (.inl (some (.int (mem (swp sw 161 + 2) i))), hpo X mem sw o e)) (k0 : (∀ i, i < n → ¬ a = qi i) → P (.inr (225 + e.length), hpo X mem sw o (e ++ [23]))) : QW (d + 1) mBp_times 0 (qen 2 [.ref 13, .int a]) [] (hpo X mem sw o e) P := by
  refine bBp_times_0 hX ?_
  refine cBag_has hX kBag_sw161 hn hn2 (fun i hi ha => qcl_i ?_) (fun h => qcl_i ?_)
  · subst ha
    refine bBp_times_8 hX (fun _ => qi_inx (by omega) (by omega)) (fun _ => ?_) he (fun z => absurd z (by decide))
    rw [qi_N (by omega)]
    exact k1 i hi rfl
  · exact bBp_times_8 hX (fun z => absurd rfl z) (fun z => absurd rfl z) he (fun _ => k0 h)
theorem cMo_times {n : Nat} {a : Int32} (hX : X.length = 13) (hn : mem 193 33 = qi n) (hn2 : n ≤ 64) (k1 : ∀ i, i < n → a = qi i → P (.inl (some (.int (mem 216 i))), hpo X (mup mem 193 0 0) sw o e)) (k0 : (∀ i, i < n → ¬ a = qi i) → P (.inl (some (.int 0)), hpo X (mup mem 193 0 1) sw o e)) : QW d mMo_times 0 (qen 2 [.ref 193, .int a]) [] (hpo X mem sw o e) P := by
  have bad : (∀ i, i < n → ¬ a = qi i) → QW d mMo_times 13 (lMo_times_13 a) [.ref 193] (hpo X mem sw o e) P := by
    intro h
    refine bMo_times_13 hX ?_
    refine bMo_times_18 hX (fun z => ?_) (fun z => ?_) (fun _ => k0 h)
    all_goals
      rw [mup_at] at z
      exact absurd z (by decide)
  refine bMo_times_0 hX (fun z => bad ?_) (fun z z2 => ?_) (fun z z2 => bad ?_)
  · rintro i hi rfl
    exact qi_p (by omega) z
  · obtain ⟨i, h1, rfl⟩ := qi_of z
    rw [hn, qi_lt (by omega) (by omega)] at z2
    refine bMo_times_18 hX (fun _ => qi_inx (by omega) (by omega)) (fun _ => ?_) (fun y => absurd (by rw [mup_at]; decide) y)
    rw [qi_N (by omega), mup_ce (by decide)]
    exact k1 i z2 rfl
  · rintro i hi rfl
    rw [hn, qi_lt (by omega) (by omega)] at z2
    exact z2 hi
/-- which row and column of the answer there is -/
def qrc (n wd : Nat) (a b : Int32) (i c : Nat) : Prop := a = qi i ∧ b = qi c ∧ i < n ∧ c < wd
theorem cBp_row {n wd : Nat} {a b : Int32} (hX : X.length = 13) (hn : mem (swp sw 161) 1 = qi n) (hn2 : n ≤ 64) (hw : mem (swp sw 161) 0 = qi wd) (hw3 : wd ≤ 3) (he : e.length < 10000) (k1 : ∀ i c, qrc n wd a b i c → P (.inl (some (.int (mem (swp sw 161 + 1) (3 * i + c)))), hpo X mem sw o e)) (k0 : (∀ i c, ¬ qrc n wd a b i c) → P (.inr (225 + e.length), hpo X mem sw o (e ++ [23]))) : QW (d + 1) mBp_row 0 (qen 3 [.ref 13, .int a, .int b]) [] (hpo X mem sw o e) P := by
  refine bBp_row_0 hX ?_
  refine cBag_has hX kBag_sw161 hn hn2 (fun i hi ha => qcl_i ?_) (fun h => qcl_i ?_)
  · subst ha
    refine bBp_row_8 hX (fun z => absurd z (by decide)) (fun _ z => bBp_row_26 hX he (k0 ?_)) (fun _ z z2 => ?_) (fun _ z z2 => ?_) (fun _ z z2 => bBp_row_26 hX he (k0 ?_))
    · rintro i' c ⟨-, rfl, -, h4⟩
      exact qi_p (by omega) z
    · obtain ⟨c, h1, rfl⟩ := qi_of z
      rw [hw, qi_lt (by omega) (by omega)] at z2
      have e1 : qi i * 3 + qi c = qi (i * 3 + c) := by
        show qi i * qi 3 + qi c = _
        rw [qi_mul, qi_add]
      rw [e1]
      exact qi_inx (by omega) (by omega)
    · obtain ⟨c, h1, rfl⟩ := qi_of z
      rw [hw, qi_lt (by omega) (by omega)] at z2
      have e1 : qi i * 3 + qi c = qi (3 * i + c) := by
        show qi i * qi 3 + qi c = _
        rw [qi_mul, qi_add, Nat.mul_comm]
      rw [e1, qi_N (by omega)]
      exact k1 i c ⟨rfl, rfl, hi, z2⟩
    · rintro i' c ⟨-, rfl, -, h4⟩
      rw [hw, qi_lt (by omega) (by omega)] at z2
      exact z2 h4
  · refine bBp_row_8 hX (fun _ => bBp_row_26 hX he (k0 ?_)) (fun z => absurd rfl z) (fun z => absurd rfl z) (fun z => absurd rfl z) (fun z => absurd rfl z)
    rintro i c ⟨rfl, -, h3, -⟩
    exact h i h3 rfl
theorem cMo_row {n wd : Nat} {a b : Int32} (hX : X.length = 13) (hn : mem 193 33 = qi n) (hn2 : n ≤ 64) (hw : mem 193 34 = qi wd) (hw3 : wd ≤ 3) (k1 : ∀ i c, qrc n wd a b i c → P (.inl (some (.int (mem 215 (3 * i + c)))), hpo X (mup mem 193 0 0) sw o e)) (k0 : (∀ i c, ¬ qrc n wd a b i c) → P (.inl (some (.int 0)), hpo X (mup mem 193 0 1) sw o e)) : QW d mMo_row 0 (qen 3 [.ref 193, .int a, .int b]) [] (hpo X mem sw o e) P := by
  have bad : (∀ i c, ¬ qrc n wd a b i c) → QW d mMo_row 25 (lMo_row_25 a b) [.ref 193] (hpo X mem sw o e) P := by
    intro h
    refine bMo_row_25 hX ?_
    refine bMo_row_30 hX (fun z => ?_) (fun z => ?_) (fun _ => k0 h)
    all_goals
      rw [mup_at] at z
      exact absurd z (by decide)
  refine bMo_row_0 hX (fun z => bad ?_) (fun z z2 => bad ?_) (fun z z2 z3 => bad ?_) (fun z z2 z3 z4 => ?_) (fun z z2 z3 z4 => bad ?_)
  · rintro i c ⟨rfl, -, h3, -⟩
    exact qi_p (by omega) z
  · rintro i c ⟨rfl, -, h3, -⟩
    rw [hn, qi_le (by omega) (by omega)] at z2
    omega
  · rintro i c ⟨-, rfl, -, h4⟩
    exact qi_p (by omega) z3
  · obtain ⟨i, h1, rfl⟩ := qi_of z
    obtain ⟨c, h2, rfl⟩ := qi_of z3
    rw [hn, qi_le (by omega) (by omega)] at z2
    rw [hw, qi_lt (by omega) (by omega)] at z4
    have e1 : 3 * qi i + qi c = qi (3 * i + c) := by
      show qi 3 * qi i + qi c = _
      rw [qi_mul, qi_add]
    refine bMo_row_30 hX (fun _ => ?_) (fun _ => ?_) (fun y => absurd (by rw [mup_at]; decide) y)
    · rw [e1]; exact qi_inx (by omega) (by omega)
    · rw [e1, qi_N (by omega), mup_ce (by decide)]
      exact k1 i c ⟨rfl, rfl, by omega, z4⟩
  · rintro i c ⟨-, rfl, -, h4⟩
    rw [hw, qi_lt (by omega) (by omega)] at z4
    exact z4 h4
theorem cBp_total {n : Nat} (hX : X.length = 13) (hn : mem (swp sw 161) 1 = qi n) (hn2 : n ≤ 64) (hp : P (.inl (some (.int (sm (mem (swp sw 161 + 2)) n))), hpo X mem sw o e)) : QW (d + 1) mBp_total 0 (qen 1 [.ref 13]) [] (hpo X mem sw o e) P := by
  refine bBp_total_0 hX ?_
  refine cBag_sum hX kBag_sw161 hn hn2 (qcl_i ?_)
  exact bBp_total_7 hX hp
theorem cBp_wipe (hX : X.length = 13) (hp : P (.inl (some (.int (mem 28 1))), hpo X (mup mem 28 1 0) sw o e)) : QW (d + 1) mBp_wipe 0 (qen 1 [.ref 13]) [] (hpo X mem sw o e) P := by
  refine bBp_wipe_0 hX ?_
  refine bTxt_clear_0 hX (qcl_i ?_)
  exact bBp_wipe_7 hX hp
end TB9
