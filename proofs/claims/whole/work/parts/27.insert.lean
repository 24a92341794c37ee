/-- the value of a row's column -/
def vl (a b c : Int32) (k : Nat) : Int32 := if k = 0 then a else if k = 1 then b else c
section TB3
variable {d : Nat} {P : qE → Prop} {X : qH} {mem : Nat → Nat → Int32} {sw : Bool} {o : Int64} {e : List Nat}
theorem cBp_table {cnt : Nat} {a : Int32} (hX : X.length = 13) (hc4 : cnt ≤ 4) (hcn : mem 14 1 = qi cnt) (he : e.length < 10000) (k0 : ¬ (¬ a < 1 ∧ a ≤ 3) → P (.inr (225 + e.length), hpo X mem sw o (e ++ [20]))) (k2 : (¬ a < 1 ∧ a ≤ 3) → cnt = 4 → P (.inr (225 + e.length), hpo X mem sw o (e ++ [21]))) (k1 : (¬ a < 1 ∧ a ≤ 3) → cnt < 4 → P (.inl (some (.int (qi cnt))), hpo X (mup (mup mem (16 + 3 * cnt) 0 a) 14 1 (qi (cnt + 1))) sw o e)) : QW (d + 1) mBp_table 0 (qen 2 [.ref 13, .int a]) [] (hpo X mem sw o e) P := by
  refine bBp_table_0 hX (fun z => bBp_table_10 hX he (k0 (fun h => h.1 z))) (fun z z2 z3 => ?_) he (fun z z2 z3 => ?_) (fun z z2 => bBp_table_10 hX he (k0 (fun h => z2 h.2)))
  · have h4 : cnt < 4 := by
      rw [hcn] at z3
      exact (qi_lt (b := 4) (by omega) (by omega)).mp z3
    have e1 : (mem 14 1).toNatClampNeg = cnt := by rw [hcn, qi_N (by omega)]
    have e2 : mup mem (16 + 3 * cnt) 0 a 14 1 = qi cnt := by rw [mup_ce (by omega)]; exact hcn
    refine bCat_make_0 hX (by rw [hcn]; exact qi_inx h4 (by omega)) (qcl_i ?_)
    rw [e1, e2, mup_at, qi_1, qi_s1 (by omega)]
    exact bBp_table_49 hX (k1 ⟨z, z2⟩ h4)
  · refine k2 ⟨z, z2⟩ ?_
    rw [hcn] at z3
    have : ¬ cnt < 4 := fun h => z3 ((qi_lt (b := 4) (by omega) (by omega)).mpr h)
    omega
theorem cMo_table {cnt : Nat} {a : Int32} (hX : X.length = 13) (hc4 : cnt ≤ 4) (hcn : mem 193 1 = qi cnt) (k0 : ¬ (¬ a < 1 ∧ a ≤ 3) → P (.inl (some (.int 0)), hpo X (mup mem 193 0 1) sw o e)) (k2 : (¬ a < 1 ∧ a ≤ 3) → cnt = 4 → P (.inl (some (.int 0)), hpo X (mup mem 193 0 2) sw o e)) (k1 : (¬ a < 1 ∧ a ≤ 3) → cnt < 4 → P (.inl (some (.int (qi cnt))), hpo X (mup (mup (mup mem 193 0 0) 194 cnt a) 193 1 (qi (cnt + 1))) sw o e)) : QW d mMo_table 0 (qen 2 [.ref 193, .int a]) [] (hpo X mem sw o e) P := by
  have bad : ∀ {s : Int32}, ¬ s ≤ 0 → P (.inl (some (.int 0)), hpo X (mup mem 193 0 s) sw o e) → QW d mMo_table 28 (lMo_table_28 a) [.int s, .ref 193] (hpo X mem sw o e) P := by
    intro s hs hp
    refine bMo_table_28 hX (fun z => ?_) (fun z => ?_) (fun _ => hp)
    all_goals
      rw [mup_at] at z
      exact absurd z hs
  refine bMo_table_0 hX (fun z => bMo_table_11 hX (bad (by decide) (k0 (fun h => h.1 z)))) (fun z z2 z3 => ?_) (fun z z2 z3 => bad (by decide) (k2 ⟨z, z2⟩ ?_)) (fun z z2 => bMo_table_11 hX (bad (by decide) (k0 (fun h => z2 h.2))))
  · have h4 : cnt < 4 := by
      have : ¬ cnt = 4 := fun h => z3 (by rw [hcn, h]; rfl)
      omega
    have e0 : mup mem 193 0 0 193 1 = qi cnt := by rw [mup_sl (by decide)]; exact hcn
    have e2 : mup (mup mem 193 0 0) 194 cnt a 193 1 = qi cnt := by rw [mup_ce (by decide)]; exact e0
    refine bMo_table_28 hX (fun _ => ?_) (fun _ => ?_) (fun z4 => absurd (by rw [mup_at]; decide) z4)
    · rw [e0]; exact qi_inx h4 (by omega)
    · rw [e0, qi_N (by omega), e2, mup_at, qi_1, qi_s1 (by omega)]
      exact k1 ⟨z, z2⟩ h4
  · rw [hcn] at z3
    exact qi_inj (b := 4) (by omega) (by omega) z3
theorem cTab_breaksKey {t n : Nat} {a b c : Int32} (hX : X.length = 13) (ht : kTab t) (hn : mem t 1 = qi n) (hn8 : n ≤ 8) (k1 : (∃ k, k < 3 ∧ ¬ mem (t + 1) k = 0 ∧ ∃ i, i < n ∧ mem (t + 2) (i * 3 + k) = vl a b c k) → P (.inl (some (.int 1)), hpo X mem sw o e)) (k0 : (∀ k, k < 3 → mem (t + 1) k = 0 ∨ ∀ i, i < n → ¬ mem (t + 2) (i * 3 + k) = vl a b c k) → P (.inl (some (.int 0)), hpo X mem sw o e)) : QW (d + 1 + 1) mTab_breaksKey 0 (qen 4 [.ref t, .int a, .int b, .int c]) [] (hpo X mem sw o e) P := by
  refine bTab_breaksKey_0 hX ht ?_
  refine cTab_isTaken (c := 0) hX ht hn hn8 (by omega) (fun y y2 => qcl_i ?_) (fun y => qcl_i ?_)
  · exact bTab_breaksKey_6 hX ht (fun _ => bTab_breaksKey_27 hX ht (k1 ⟨0, by omega, y, y2⟩)) (fun z => absurd z (by decide))
  refine bTab_breaksKey_6 hX ht (fun z => absurd rfl z) (fun _ => ?_)
  refine cTab_isTaken (c := 1) hX ht hn hn8 (by omega) (fun y1 y2 => qcl_i ?_) (fun y1 => qcl_i ?_)
  · exact bTab_breaksKey_15 hX ht (fun _ => bTab_breaksKey_27 hX ht (k1 ⟨1, by omega, y1, y2⟩)) (fun z => absurd z (by decide))
  refine bTab_breaksKey_15 hX ht (fun z => absurd rfl z) (fun _ => ?_)
  refine cTab_isTaken (c := 2) hX ht hn hn8 (by omega) (fun y3 y2 => qcl_i ?_) (fun y3 => qcl_i ?_)
  · exact bTab_breaksKey_24 hX ht (fun z => absurd z (by decide)) (fun _ => bTab_breaksKey_27 hX ht (k1 ⟨2, by omega, y3, y2⟩))
  refine bTab_breaksKey_24 hX ht (fun _ => k0 ?_) (fun z => absurd rfl z)
  intro k hk
  match k, hk with
  | 0, _ => exact y
  | 1, _ => exact y1
  | 2, _ => exact y3
  | k + 3, h => omega
/-- a row laid behind the rows -/
def mrow (mem : Nat → Nat → Int32) (ce at_ : Nat) (a b c : Int32) (re rs : Nat) (v : Int32) : Nat → Nat → Int32 := mup (mup (mup (mup mem ce at_ a) ce (at_ + 1) b) ce (at_ + 2) c) re rs v
theorem cTab_append {t n : Nat} {a b c : Int32} (hX : X.length = 13) (ht : kTab t) (hn : mem t 1 = qi n) (hn8 : n < 8) (hp : P (.inl (some (.int (qi (n + 1)))), hpo X (mrow mem (t + 2) (n * 3) a b c t 1 (qi (n + 1))) sw o e)) : QW d mTab_append 0 (qen 5 [.ref t, .int a, .int b, .int c]) [] (hpo X mem sw o e) P := by
  have e0 : mem t 1 * 3 = qi (n * 3) := by
    rw [hn]
    show qi n * qi 3 = _
    rw [qi_mul]
  have e1 : mem t 1 * 3 + 1 = qi (n * 3 + 1) := by rw [e0, qi_1]
  have e2 : mem t 1 * 3 + 2 = qi (n * 3 + 2) := by
    rw [e0]
    show qi (n * 3) + qi 2 = _
    rw [qi_add]
  have e3 : ∀ (i j k : Nat) (x y z : Int32), mup (mup (mup mem (t + 2) i x) (t + 2) j y) (t + 2) k z t 1 = qi n := by
    intro i j k x y z
    rw [mup_ce (by omega), mup_ce (by omega), mup_ce (by omega)]
    exact hn
  refine bTab_append_0 hX ht (by rw [e0]; exact qi_inx (by omega) (by omega)) (by rw [e1]; exact qi_inx (by omega) (by omega)) (by rw [e2]; exact qi_inx (by omega) (by omega)) ?_
  rw [e1, e2, e0, qi_N (by omega), qi_N (by omega), qi_N (by omega), e3, mup_at, qi_1]
  exact hp
theorem cBp_insert {cnt : Nat} {row : Nat → Nat} {a x y z : Int32} (hX : X.length = 13) (hc4 : cnt ≤ 4) (hcn : mem 14 1 = qi cnt) (hro : ∀ i, i < 4 → mem (16 + 3 * i) 1 = qi (row i) ∧ row i ≤ 8) (he : e.length < 10000) (k0 : (∀ t, t < cnt → ¬ a = qi t) → P (.inr (225 + e.length), hpo X mem sw o (e ++ [20])))
    (k2 : ∀ t, t < cnt → a = qi t → (row t = 8 ∨ ∃ k, k < 3 ∧ ¬ mem (16 + 3 * t + 1) k = 0 ∧ ∃ i, i < row t ∧ mem (16 + 3 * t + 2) (i * 3 + k) = vl x y z k) → P (.inr (225 + e.length), hpo X mem sw o (e ++ [21])))
    (k1 : ∀ t, t < cnt → a = qi t → row t < 8 → (∀ k, k < 3 → mem (16 + 3 * t + 1) k = 0 ∨ ∀ i, i < row t → ¬ mem (16 + 3 * t + 2) (i * 3 + k) = vl x y z k) → P (.inl (some (.int (qi (row t + 1)))), hpo X (mrow mem (16 + 3 * t + 2) (row t * 3) x y z (16 + 3 * t) 1 (qi (row t + 1))) sw o e)) : QW (d + 1 + 1 + 1) mBp_insert 0 (qen 6 [.ref 13, .int a, .int x, .int y, .int z]) [] (hpo X mem sw o e) P := by
  refine bBp_insert_0 hX ?_
  refine bCat_has_0 hX (fun w => qcl_i ?_) (fun w w2 => qcl_i ?_) (fun w w2 => qcl_i ?_)
  · refine bBp_insert_8 hX (fun q => absurd rfl q) (fun q => absurd rfl q) he (fun q => absurd rfl q) he (fun _ => k0 ?_)
    rintro t h rfl
    exact qi_p (by omega) w
  · refine bBp_insert_8 hX (fun q => absurd rfl q) (fun q => absurd rfl q) he (fun q => absurd rfl q) he (fun _ => k0 ?_)
    rintro t h rfl
    rw [hcn, qi_le (by omega) (by omega)] at w2
    omega
  · obtain ⟨t, h1, rfl⟩ := qi_of w
    rw [hcn, qi_le (by omega) (by omega)] at w2
    have ht4 : t < 4 := by omega
    have h3 := hro t ht4
    refine bBp_insert_8 hX (fun _ => qi_inx ht4 (by omega)) (fun _ q2 => ?_) he (fun _ q2 => k2 t (by omega) rfl (Or.inl ?_)) he (fun q => absurd q (by decide))
    · rw [qi_N h1] at q2 ⊢
      have h5 : row t < 8 := by
        rw [h3.1] at q2
        exact (qi_lt (b := 8) (by omega) (by omega)).mp q2
      refine cTab_breaksKey hX (kTab_at ht4) h3.1 h3.2 (fun h => qcl_i ?_) (fun h => qcl_i ?_)
      · exact bBp_insert_61 hX (kTab_at ht4) (fun q => absurd q (by decide)) he (fun _ => k2 t (by omega) rfl (Or.inr h))
      · refine bBp_insert_61 hX (kTab_at ht4) (fun _ => ?_) he (fun q => absurd rfl q)
        refine cTab_append hX (kTab_at ht4) h3.1 h5 (qcl_i ?_)
        exact bBp_insert_83 hX (kTab_at ht4) (k1 t (by omega) rfl h5 h)
    · rw [qi_N h1, h3.1] at q2
      have : ¬ row t < 8 := fun h => q2 ((qi_lt (b := 8) (by omega) (by omega)).mpr h)
      omega
end TB3
